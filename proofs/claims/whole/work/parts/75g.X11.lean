abbrev wX11_finish (h0 h1 h2 : Nat) (kc1 kc2 : ClassId) (V0 : Nat → Value) (v0_codes : Int32) (v0_opSize : Int32) (v0_deep : Int32) (c1 : Nat → Int32) (c2 : Nat → Int32) : va_W := [(h0, .inr (11, [V0 0, V0 1, V0 2, V0 3, V0 4, V0 5, V0 6, V0 7, V0 8, V0 9, V0 10, V0 11, V0 12, V0 13, V0 14, V0 15, V0 16, V0 17, V0 18, V0 19, V0 20, V0 21, V0 22, V0 23, V0 24, V0 25, V0 26, V0 27, V0 28, V0 29, V0 30, V0 31, V0 32, V0 33, V0 34, V0 35, V0 36, V0 37, V0 38, V0 39, V0 40, V0 41, V0 42, V0 43, V0 44, V0 45, .ref h2, .int v0_codes, V0 48, V0 49, V0 50, V0 51, V0 52, V0 53, V0 54, V0 55, .ref h1, .int v0_opSize, .int v0_deep, V0 59, V0 60, V0 61, V0 62, V0 63, V0 64, V0 65, V0 66, V0 67, V0 68, V0 69, V0 70])), (h1, .inl (kc1, 700, .inl c1)), (h2, .inl (kc2, 700, .inl c2))]
set_option maxHeartbeats 4000000 in
set_option maxRecDepth 100000 in
theorem mX11_finish (l : Launch) (dC : Nat → ClassId) (dI : Nat → Nat → Nat) (h0 h1 h2 : Nat) (kc1 kc2 : ClassId) (sz : Nat) (base : Nat × Nat × Nat) (v0_codes : Int32) (v0_opSize : Int32) (v0_deep : Int32) (c1 : Nat → Int32) (c2 : Nat → Int32) (V0 : Nat → Value) (o : Int32 × Int32 × Int32 × (Nat → Int32)) (hf : fX11_finish v0_codes v0_opSize v0_deep c1 c2 = some o) : Met l yX11_finish (.code yX11_finish cX11_finish 1 none :: wsL_law) ({ frames := 1, cells := 0, slots := 0, locals := 21 }) (cPre (dC, dI) vwCl [.ref h0] sz base (wX11_finish h0 h1 h2 kc1 kc2 V0 v0_codes v0_opSize v0_deep c1 c2) [(kc1, .int), (kc2, .int)]) (va_Qv (fun u => u = o) (fun (u : Int32 × Int32 × Int32 × (Nat → Int32)) t => cPost (dC, dI) vwCl (va_A (wX11_finish h0 h1 h2 kc1 kc2 V0 v0_codes v0_opSize v0_deep c1 c2) sz) (wX11_finish h0 h1 h2 kc1 kc2 V0 u.1 u.2.1 u.2.2.1 c1 u.2.2.2) [(kc1, .int), (kc2, .int)] t) (va_A (wX11_finish h0 h1 h2 kc1 kc2 V0 v0_codes v0_opSize v0_deep c1 c2) sz)) 0 0 (va_A (wX11_finish h0 h1 h2 kc1 kc2 V0 v0_codes v0_opSize v0_deep c1 c2) sz) := by
  refine Met.ofW (cc := cX11_finish) (maxL := 1) (ret := none) (by decide) rfl ?_
  intro p e s m args below meth c s₁ B hml hv
  obtain ⟨rfl, hsz, hP, hK, hD0, hE⟩ := hv
  have hx := B.exec
  have hb := B.bytes
  have hr := B.returns
  have hts : ∀ w ∈ wsL_law, _ := fun w h => atoms_spec (ws := .code yX11_finish cX11_finish 1 none :: wsL_law) B.pre w (List.mem_cons_of_mem _ h)
  have hown : s.vm.findClass RX11 = some m.cls := findClass_of_methodNamed B.named
  have hlocks := B.notSynchronized
  have w0_ := hts _ q892
  have w1_ := hts _ q118
  have w2_ := hts _ q893
  subst hsz
  have hD := hD0.self (sz := s.heap.size)
  generalize hAe : va_A (wX11_finish h0 h1 h2 kc1 kc2 V0 v0_codes v0_opSize v0_deep c1 c2) s.heap.size = A at hD ⊢
  have hA : ∀ q : Nat, s.heap.size ≤ q → A q := fun q h => by rw [← hAe]; exact Or.inr h
  have hAB : ∀ q : Nat, A q → base.1 ≤ q := fun q h => by rw [← hAe] at h; exact h.elim (fun ⟨k, e, hk⟩ => hD0.2 k _ hk) (fun hk => Nat.le_trans hE.1 hk)
  have hS : va_S A s.heap s.heap [] := va_S.rf
  have hl := lv_entry ([.ref h0]) (n := 1) (Nat.le_of_ble_eq_true rfl)
  rw [lg_entry_eq]
  generalize (lg_sl ([.ref h0]) ++ List.replicate (1 - (lg_sl ([.ref h0])).length) Slot.unset).toArray = ls at hl ⊢
  have hl : lv_has ls 1 [(0, .ref h0)] := hl
  have hP : va_P (dC, dI) vwCl (wX11_finish h0 h1 h2 kc1 kc2 V0 v0_codes v0_opSize v0_deep c1 c2) s.heap := hP
  refine gl_intro (fun G hG => ?_)
  have J51 : ∀ (v0_codes : Int32) (v0_opSize : Int32) (v0_deep : Int32) (c2 : (Nat → Int32)) (H : Heap) (locs : List Loc) (ls : Array Slot), va_P (dC, dI) vwCl (wX11_finish h0 h1 h2 kc1 kc2 V0 v0_codes v0_opSize v0_deep c1 c2) H → va_D A (wX11_finish h0 h1 h2 kc1 kc2 V0 v0_codes v0_opSize v0_deep c1 c2) → va_S A s.heap H locs → lv_has ls 1 [(0, .ref h0)] → fX11_finish_p51 c1  v0_codes v0_opSize v0_deep c2 = some o → G 0 0 H locs (F0 m 51 ls []) := by
    intro  v0_codes v0_opSize v0_deep c2 H locs ls hP hD hS hl hf
    refine (hG _ _ _ _ _).mpr ?_
    unfold fX11_finish_p51 at hf
    have hf1 := Option.some.inj hf
    subst hf1
    have hP9 := hP.sub (ws' := (wX11_finish h0 h1 h2 kc1 kc2 V0 v0_codes v0_opSize v0_deep c1 c2)) [0, 1, 2] rfl
    have hD9 := hD.sub (ws' := (wX11_finish h0 h1 h2 kc1 kc2 V0 v0_codes v0_opSize v0_deep c1 c2)) [0, 1, 2] (by decide) rfl
    exact W.vret hx hb hr (fun t ht hW => ⟨⟨(v0_codes, v0_opSize, v0_deep, c2), rfl, rfl, by rw [ht]; exact hP9, va_K.moved hW.alike hK, hD9⟩, hS.F ht⟩) hS.2.2 dX11_finish_51
  have B0 : ∀ (k0 : Int32 → Int32 → Int32 → (Nat → Int32) → Option (Int32 × Int32 × Int32 × (Nat → Int32))) (hk0 : ∀ (v0_codes : Int32) (v0_opSize : Int32) (v0_deep : Int32) (c2 : (Nat → Int32)) (H : Heap) (locs : List Loc) (ls : Array Slot), va_P (dC, dI) vwCl (wX11_finish h0 h1 h2 kc1 kc2 V0 v0_codes v0_opSize v0_deep c1 c2) H → va_D A (wX11_finish h0 h1 h2 kc1 kc2 V0 v0_codes v0_opSize v0_deep c1 c2) → va_S A s.heap H locs → lv_has ls 1 [(0, .ref h0)] → k0 v0_codes v0_opSize v0_deep c2 = some o → G 0 0 H locs (F0 m 0 ls [])), ∀ (v0_codes : Int32) (v0_opSize : Int32) (v0_deep : Int32) (c2 : (Nat → Int32)) (H : Heap) (locs : List Loc) (ls : Array Slot), va_P (dC, dI) vwCl (wX11_finish h0 h1 h2 kc1 kc2 V0 v0_codes v0_opSize v0_deep c1 c2) H → va_D A (wX11_finish h0 h1 h2 kc1 kc2 V0 v0_codes v0_opSize v0_deep c1 c2) → va_S A s.heap H locs → lv_has ls 1 [(0, .ref h0)] → fX11_finish_b0 c1  k0 v0_codes v0_opSize v0_deep c2 = some o → G 0 0 H locs (F0 m 0 ls []) := by
    intro  k0 hk0 v0_codes v0_opSize v0_deep c2 H locs ls hP hD hS hl hf
    refine (hG _ _ _ _ _).mpr ?_
    unfold fX11_finish_b0 at hf
    refine lv_aload_n hx hb dX11_finish_0 rfl (lv_at hl 0 rfl) ?_
    refine va_get (D := (dC, dI)) (ci := 11) (v := .int v0_opSize) (C := RX11) (T := TX11) (N := 71) hx hb hts inlX11 hown hK hP 0 rfl rfl 57 (by decide) w0_ (fun _ h9 => h9) rfl dX11_finish_1 ?_
    refine lv_if_le (tgt := 51) hx hb dX11_finish_4 (by decide) (fun cq1 => ?_) (fun cq1 => ?_)
    · replace hf := if_at hf cq1
      exact (hG _ _ _ _ _).mp (J51 v0_codes v0_opSize v0_deep c2 H locs ls (hP.sub [0, 1, 2] rfl) (hD.sub [0, 1, 2] (by decide) rfl) hS (lv_sub hl [0] rfl) hf)
    · replace hf := if_no hf cq1
      refine lv_aload_n hx hb dX11_finish_7 rfl (lv_at hl 0 rfl) ?_
      refine va_get (D := (dC, dI)) (ci := 11) (v := .ref h1) (C := RX11) (T := TX11) (N := 71) hx hb hts inlX11 hown hK hP 0 rfl rfl 56 (by decide) w1_ (fun _ h9 => h9) rfl dX11_finish_8 ?_
      refine lv_aload_n hx hb dX11_finish_11 rfl (lv_at hl 0 rfl) ?_
      refine va_get (D := (dC, dI)) (ci := 11) (v := .int v0_opSize) (C := RX11) (T := TX11) (N := 71) hx hb hts inlX11 hown hK hP 0 rfl rfl 57 (by decide) w0_ (fun _ h9 => h9) rfl dX11_finish_12 ?_
      refine lv_iconst (v := 1) hx hb dX11_finish_15 (by decide +kernel) ?_
      refine lv_isub hx hb dX11_finish_16 ?_
      refine lv_topi (fun x2 e2 => ?_)
      replace hf := nm_at hf e2
      have b3 := bd_in hf
      replace hf := bd_k hf
      refine va_iald hx hb hK hP 1 0 rfl rfl b3 dX11_finish_17 ?_
      refine lv_topi (fun x4 e4 => ?_)
      replace hf := nm_at hf e4
      refine lv_bipush (v := 33) hx hb dX11_finish_18 (by decide +kernel) ?_
      refine lv_icmp_ne (tgt := 51) hx hb dX11_finish_20 (by decide) (fun cq5 => ?_) (fun cq5 => ?_)
      · replace hf := if_no hf cq5
        exact (hG _ _ _ _ _).mp (J51 v0_codes v0_opSize v0_deep c2 H locs ls (hP.sub [0, 1, 2] rfl) (hD.sub [0, 1, 2] (by decide) rfl) hS (lv_sub hl [0] rfl) hf)
      · replace hf := if_at hf cq5
        refine lv_aload_n hx hb dX11_finish_23 rfl (lv_at hl 0 rfl) ?_
        refine lv_iconst (v := 3) hx hb dX11_finish_24 (by decide +kernel) ?_
        obtain ⟨o6, e6, hf⟩ := ob_some hf
        refine kVv (As := [.int 3]) (rest := []) ⟨hx, hb, hml, hown, hts⟩ (mX11_emit l dC dI h0 h2 kc2 H.size base 3 v0_codes c2 (fun k => match k with | 56 => .ref h1 | 57 => .int v0_opSize | 58 => .int v0_deep | k => V0 k) o6 e6) (cwV 1 hts (gTV q894 q895 q896 q5 q897) rfl rfl rfl (by decide +kernel) ⟨Nat.le_of_ble_eq_true rfl, Nat.le_of_ble_eq_true rfl⟩) hK hP hD hS hA hE hAB [0, 2] [1] [1] (wr := [(h1, .inl (kc1, 700, .inl c1))]) rfl rfl (by decide) (by decide) (by decide) rfl (ci := 11) (q0 := 0) rfl rfl rfl rfl hl.1 rfl (Nat.le_of_ble_eq_true rfl) dX11_finish_25 ⟨Nat.zero_le _, Nat.zero_le _⟩ (fun u6 H locs hw6 hP hD hS => ?_)
        have hw61 : o6 = u6 := Eq.symm hw6
        subst hw61
        have hP : va_P (dC, dI) vwCl (wX11_finish h0 h1 h2 kc1 kc2 V0 o6.1 v0_opSize v0_deep c1 o6.2) H := hP.sub [1, 0, 2] rfl
        have hD : va_D A (wX11_finish h0 h1 h2 kc1 kc2 V0 o6.1 v0_opSize v0_deep c1 o6.2) := hD.sub [1, 0, 2] (by decide) rfl
        refine lv_aload_n hx hb dX11_finish_28 rfl (lv_at hl 0 rfl) ?_
        refine lv_dup hx hb dX11_finish_29 rfl ?_
        refine va_get (D := (dC, dI)) (ci := 11) (v := .int v0_opSize) (C := RX11) (T := TX11) (N := 71) hx hb hts inlX11 hown hK hP 0 rfl rfl 57 (by decide) w0_ (fun _ h9 => h9) rfl dX11_finish_30 ?_
        refine lv_iconst (v := 1) hx hb dX11_finish_33 (by decide +kernel) ?_
        refine lv_isub hx hb dX11_finish_34 ?_
        refine lv_topi (fun x7 e7 => ?_)
        replace hf := nm_at hf e7
        refine va_put (D := (dC, dI)) (ci := 11) (v := .int x7) (ty := .int) (C := RX11) (T := TX11) (N := 71) hx hb hts inlX11 tyX11 tyX11_ok nmX11 hown hK hP hD hS 0 rfl rfl 57 (by decide) w0_ (fun _ h9 => h9) rfl (by decide +kernel) rfl rfl (Nat.le_of_ble_eq_true rfl) dX11_finish_35 (fun H locs hP hD hS => ?_)
        have hP : va_P (dC, dI) vwCl (wX11_finish h0 h1 h2 kc1 kc2 V0 o6.1 x7 v0_deep c1 o6.2) H := hP
        have hD : va_D A (wX11_finish h0 h1 h2 kc1 kc2 V0 o6.1 x7 v0_deep c1 o6.2) := hD
        refine lv_aload_n hx hb dX11_finish_38 rfl (lv_at hl 0 rfl) ?_
        refine lv_dup hx hb dX11_finish_39 rfl ?_
        refine va_get (D := (dC, dI)) (ci := 11) (v := .int v0_deep) (C := RX11) (T := TX11) (N := 71) hx hb hts inlX11 hown hK hP 0 rfl rfl 58 (by decide) w2_ (fun _ h9 => h9) rfl dX11_finish_40 ?_
        refine lv_iconst (v := 1) hx hb dX11_finish_43 (by decide +kernel) ?_
        refine lv_isub hx hb dX11_finish_44 ?_
        refine lv_topi (fun x8 e8 => ?_)
        replace hf := nm_at hf e8
        refine va_put (D := (dC, dI)) (ci := 11) (v := .int x8) (ty := .int) (C := RX11) (T := TX11) (N := 71) hx hb hts inlX11 tyX11 tyX11_ok nmX11 hown hK hP hD hS 0 rfl rfl 58 (by decide) w2_ (fun _ h9 => h9) rfl (by decide +kernel) rfl rfl (Nat.le_of_ble_eq_true rfl) dX11_finish_45 (fun H locs hP hD hS => ?_)
        have hP : va_P (dC, dI) vwCl (wX11_finish h0 h1 h2 kc1 kc2 V0 o6.1 x7 x8 c1 o6.2) H := hP
        have hD : va_D A (wX11_finish h0 h1 h2 kc1 kc2 V0 o6.1 x7 x8 c1 o6.2) := hD
        refine lv_goto (tgt := 0) hx hb dX11_finish_48 (by decide) ?_
        exact (hG _ _ _ _ _).mp (hk0 o6.1 x7 x8 o6.2 H locs ls (hP.sub [0, 1, 2] rfl) (hD.sub [0, 1, 2] (by decide) rfl) hS (lv_sub hl [0] rfl) hf)
  have L0 : ∀ (n : Nat), ∀ (v0_codes : Int32) (v0_opSize : Int32) (v0_deep : Int32) (c2 : (Nat → Int32)) (H : Heap) (locs : List Loc) (ls : Array Slot), va_P (dC, dI) vwCl (wX11_finish h0 h1 h2 kc1 kc2 V0 v0_codes v0_opSize v0_deep c1 c2) H → va_D A (wX11_finish h0 h1 h2 kc1 kc2 V0 v0_codes v0_opSize v0_deep c1 c2) → va_S A s.heap H locs → lv_has ls 1 [(0, .ref h0)] → fX11_finish_l0 c1  n v0_codes v0_opSize v0_deep c2 = some o → G 0 0 H locs (F0 m 0 ls []) := by
    intro  n
    induction n with
    | zero => intro v0_codes v0_opSize v0_deep c2 H locs ls _ _ _ _ hf; cases hf
    | succ n ih => exact B0  _ ih
  refine (hG _ _ _ _ _).mpr ?_
  obtain ⟨H, hH⟩ : ∃ H, H = s.heap := ⟨_, rfl⟩
  have hS : va_S A s.heap H [] := by rw [hH]; exact hS
  rw [← hH] at hP ⊢
  generalize ([] : List Loc) = locs at hS ⊢
  unfold fX11_finish at hf
  exact (hG _ _ _ _ _).mp (L0 FU v0_codes v0_opSize v0_deep c2 H locs ls (hP.sub [0, 1, 2] rfl) (hD.sub [0, 1, 2] (by decide) rfl) hS (lv_sub hl [0] rfl) hf)
set_option maxHeartbeats 4000000 in
set_option maxRecDepth 100000 in
theorem mX11_kindOf (l : Launch) (dC : Nat → ClassId) (dI : Nat → Nat → Nat) (h0 : Nat) (sz : Nat) (base : Nat × Nat × Nat) (v0_token : Int32) (v0_name : Int64) (V0 : Nat → Value) (o : Int32 × Unit) (hf : fX11_kindOf v0_token v0_name = some o) : Met l yX11_kindOf (.code yX11_kindOf cX11_kindOf 1 (some .int) :: wsL_law) ({ frames := 1, cells := 0, slots := 0, locals := 22 }) (cPre (dC, dI) vwCl [.ref h0] sz base [(h0, .inr (11, [V0 0, V0 1, V0 2, V0 3, V0 4, V0 5, V0 6, V0 7, V0 8, V0 9, V0 10, V0 11, V0 12, V0 13, V0 14, V0 15, V0 16, V0 17, V0 18, V0 19, V0 20, V0 21, V0 22, .int v0_token, .long v0_name, V0 25, V0 26, V0 27, V0 28, V0 29, V0 30, V0 31, V0 32, V0 33, V0 34, V0 35, V0 36, V0 37, V0 38, V0 39, V0 40, V0 41, V0 42, V0 43, V0 44, V0 45, V0 46, V0 47, V0 48, V0 49, V0 50, V0 51, V0 52, V0 53, V0 54, V0 55, V0 56, V0 57, V0 58, V0 59, V0 60, V0 61, V0 62, V0 63, V0 64, V0 65, V0 66, V0 67, V0 68, V0 69, V0 70]))] []) (va_Qi (fun r u => r = o.1 ∧ u = o.2) (fun (u : Unit) t => cPost (dC, dI) vwCl (va_A [(h0, .inr (11, [V0 0, V0 1, V0 2, V0 3, V0 4, V0 5, V0 6, V0 7, V0 8, V0 9, V0 10, V0 11, V0 12, V0 13, V0 14, V0 15, V0 16, V0 17, V0 18, V0 19, V0 20, V0 21, V0 22, .int v0_token, .long v0_name, V0 25, V0 26, V0 27, V0 28, V0 29, V0 30, V0 31, V0 32, V0 33, V0 34, V0 35, V0 36, V0 37, V0 38, V0 39, V0 40, V0 41, V0 42, V0 43, V0 44, V0 45, V0 46, V0 47, V0 48, V0 49, V0 50, V0 51, V0 52, V0 53, V0 54, V0 55, V0 56, V0 57, V0 58, V0 59, V0 60, V0 61, V0 62, V0 63, V0 64, V0 65, V0 66, V0 67, V0 68, V0 69, V0 70]))] sz) [(h0, .inr (11, [V0 0, V0 1, V0 2, V0 3, V0 4, V0 5, V0 6, V0 7, V0 8, V0 9, V0 10, V0 11, V0 12, V0 13, V0 14, V0 15, V0 16, V0 17, V0 18, V0 19, V0 20, V0 21, V0 22, .int v0_token, .long v0_name, V0 25, V0 26, V0 27, V0 28, V0 29, V0 30, V0 31, V0 32, V0 33, V0 34, V0 35, V0 36, V0 37, V0 38, V0 39, V0 40, V0 41, V0 42, V0 43, V0 44, V0 45, V0 46, V0 47, V0 48, V0 49, V0 50, V0 51, V0 52, V0 53, V0 54, V0 55, V0 56, V0 57, V0 58, V0 59, V0 60, V0 61, V0 62, V0 63, V0 64, V0 65, V0 66, V0 67, V0 68, V0 69, V0 70]))] [] t) (va_A [(h0, .inr (11, [V0 0, V0 1, V0 2, V0 3, V0 4, V0 5, V0 6, V0 7, V0 8, V0 9, V0 10, V0 11, V0 12, V0 13, V0 14, V0 15, V0 16, V0 17, V0 18, V0 19, V0 20, V0 21, V0 22, .int v0_token, .long v0_name, V0 25, V0 26, V0 27, V0 28, V0 29, V0 30, V0 31, V0 32, V0 33, V0 34, V0 35, V0 36, V0 37, V0 38, V0 39, V0 40, V0 41, V0 42, V0 43, V0 44, V0 45, V0 46, V0 47, V0 48, V0 49, V0 50, V0 51, V0 52, V0 53, V0 54, V0 55, V0 56, V0 57, V0 58, V0 59, V0 60, V0 61, V0 62, V0 63, V0 64, V0 65, V0 66, V0 67, V0 68, V0 69, V0 70]))] sz)) 0 0 (va_A [(h0, .inr (11, [V0 0, V0 1, V0 2, V0 3, V0 4, V0 5, V0 6, V0 7, V0 8, V0 9, V0 10, V0 11, V0 12, V0 13, V0 14, V0 15, V0 16, V0 17, V0 18, V0 19, V0 20, V0 21, V0 22, .int v0_token, .long v0_name, V0 25, V0 26, V0 27, V0 28, V0 29, V0 30, V0 31, V0 32, V0 33, V0 34, V0 35, V0 36, V0 37, V0 38, V0 39, V0 40, V0 41, V0 42, V0 43, V0 44, V0 45, V0 46, V0 47, V0 48, V0 49, V0 50, V0 51, V0 52, V0 53, V0 54, V0 55, V0 56, V0 57, V0 58, V0 59, V0 60, V0 61, V0 62, V0 63, V0 64, V0 65, V0 66, V0 67, V0 68, V0 69, V0 70]))] sz) := by
  refine Met.ofW (cc := cX11_kindOf) (maxL := 1) (ret := (some .int)) (by decide) rfl ?_
  intro p e s m args below meth c s₁ B hml hv
  obtain ⟨rfl, hsz, hP, hK, hD0, hE⟩ := hv
  have hx := B.exec
  have hb := B.bytes
  have hr := B.returns
  have hts : ∀ w ∈ wsL_law, _ := fun w h => atoms_spec (ws := .code yX11_kindOf cX11_kindOf 1 (some .int) :: wsL_law) B.pre w (List.mem_cons_of_mem _ h)
  have hown : s.vm.findClass RX11 = some m.cls := findClass_of_methodNamed B.named
  have hlocks := B.notSynchronized
  have w0_ := hts _ q802
  have w1_ := hts _ q816
  have w2_ := hts _ q818
  have w3_ := hts _ q819
  have w4_ := hts _ q820
  have w5_ := hts _ q821
  have w6_ := hts _ q822
  have w7_ := hts _ q823
  subst hsz
  have hD := hD0.self (sz := s.heap.size)
  generalize hAe : va_A [(h0, .inr (11, [V0 0, V0 1, V0 2, V0 3, V0 4, V0 5, V0 6, V0 7, V0 8, V0 9, V0 10, V0 11, V0 12, V0 13, V0 14, V0 15, V0 16, V0 17, V0 18, V0 19, V0 20, V0 21, V0 22, .int v0_token, .long v0_name, V0 25, V0 26, V0 27, V0 28, V0 29, V0 30, V0 31, V0 32, V0 33, V0 34, V0 35, V0 36, V0 37, V0 38, V0 39, V0 40, V0 41, V0 42, V0 43, V0 44, V0 45, V0 46, V0 47, V0 48, V0 49, V0 50, V0 51, V0 52, V0 53, V0 54, V0 55, V0 56, V0 57, V0 58, V0 59, V0 60, V0 61, V0 62, V0 63, V0 64, V0 65, V0 66, V0 67, V0 68, V0 69, V0 70]))] s.heap.size = A at hD ⊢
  have hA : ∀ q : Nat, s.heap.size ≤ q → A q := fun q h => by rw [← hAe]; exact Or.inr h
  have hAB : ∀ q : Nat, A q → base.1 ≤ q := fun q h => by rw [← hAe] at h; exact h.elim (fun ⟨k, e, hk⟩ => hD0.2 k _ hk) (fun hk => Nat.le_trans hE.1 hk)
  have hS : va_S A s.heap s.heap [] := va_S.rf
  have hl := lv_entry ([.ref h0]) (n := 1) (Nat.le_of_ble_eq_true rfl)
  rw [lg_entry_eq]
  generalize (lg_sl ([.ref h0]) ++ List.replicate (1 - (lg_sl ([.ref h0])).length) Slot.unset).toArray = ls at hl ⊢
  have hl : lv_has ls 1 [(0, .ref h0)] := hl
  have hP : va_P (dC, dI) vwCl [(h0, .inr (11, [V0 0, V0 1, V0 2, V0 3, V0 4, V0 5, V0 6, V0 7, V0 8, V0 9, V0 10, V0 11, V0 12, V0 13, V0 14, V0 15, V0 16, V0 17, V0 18, V0 19, V0 20, V0 21, V0 22, .int v0_token, .long v0_name, V0 25, V0 26, V0 27, V0 28, V0 29, V0 30, V0 31, V0 32, V0 33, V0 34, V0 35, V0 36, V0 37, V0 38, V0 39, V0 40, V0 41, V0 42, V0 43, V0 44, V0 45, V0 46, V0 47, V0 48, V0 49, V0 50, V0 51, V0 52, V0 53, V0 54, V0 55, V0 56, V0 57, V0 58, V0 59, V0 60, V0 61, V0 62, V0 63, V0 64, V0 65, V0 66, V0 67, V0 68, V0 69, V0 70]))] s.heap := hP
  refine gl_intro (fun G hG => ?_)
  have J113 : ∀ (z0 : Int32) (H : Heap) (locs : List Loc) (ls : Array Slot), va_P (dC, dI) vwCl [(h0, .inr (11, [V0 0, V0 1, V0 2, V0 3, V0 4, V0 5, V0 6, V0 7, V0 8, V0 9, V0 10, V0 11, V0 12, V0 13, V0 14, V0 15, V0 16, V0 17, V0 18, V0 19, V0 20, V0 21, V0 22, .int v0_token, .long v0_name, V0 25, V0 26, V0 27, V0 28, V0 29, V0 30, V0 31, V0 32, V0 33, V0 34, V0 35, V0 36, V0 37, V0 38, V0 39, V0 40, V0 41, V0 42, V0 43, V0 44, V0 45, V0 46, V0 47, V0 48, V0 49, V0 50, V0 51, V0 52, V0 53, V0 54, V0 55, V0 56, V0 57, V0 58, V0 59, V0 60, V0 61, V0 62, V0 63, V0 64, V0 65, V0 66, V0 67, V0 68, V0 69, V0 70]))] H → va_D A [(h0, .inr (11, [V0 0, V0 1, V0 2, V0 3, V0 4, V0 5, V0 6, V0 7, V0 8, V0 9, V0 10, V0 11, V0 12, V0 13, V0 14, V0 15, V0 16, V0 17, V0 18, V0 19, V0 20, V0 21, V0 22, .int v0_token, .long v0_name, V0 25, V0 26, V0 27, V0 28, V0 29, V0 30, V0 31, V0 32, V0 33, V0 34, V0 35, V0 36, V0 37, V0 38, V0 39, V0 40, V0 41, V0 42, V0 43, V0 44, V0 45, V0 46, V0 47, V0 48, V0 49, V0 50, V0 51, V0 52, V0 53, V0 54, V0 55, V0 56, V0 57, V0 58, V0 59, V0 60, V0 61, V0 62, V0 63, V0 64, V0 65, V0 66, V0 67, V0 68, V0 69, V0 70]))] → va_S A s.heap H locs → lv_has ls 1 [(0, .ref h0)] → fX11_kindOf_p113 v0_token v0_name  z0 = some o → G 0 0 H locs (F0 m 113 ls [.int z0]) := by
    intro  z0 H locs ls hP hD hS hl hf
    refine (hG _ _ _ _ _).mpr ?_
    unfold fX11_kindOf_p113 at hf
    have hf1 := Option.some.inj hf
    subst hf1
    have hP9 := hP.sub (ws' := [(h0, .inr (11, [V0 0, V0 1, V0 2, V0 3, V0 4, V0 5, V0 6, V0 7, V0 8, V0 9, V0 10, V0 11, V0 12, V0 13, V0 14, V0 15, V0 16, V0 17, V0 18, V0 19, V0 20, V0 21, V0 22, .int v0_token, .long v0_name, V0 25, V0 26, V0 27, V0 28, V0 29, V0 30, V0 31, V0 32, V0 33, V0 34, V0 35, V0 36, V0 37, V0 38, V0 39, V0 40, V0 41, V0 42, V0 43, V0 44, V0 45, V0 46, V0 47, V0 48, V0 49, V0 50, V0 51, V0 52, V0 53, V0 54, V0 55, V0 56, V0 57, V0 58, V0 59, V0 60, V0 61, V0 62, V0 63, V0 64, V0 65, V0 66, V0 67, V0 68, V0 69, V0 70]))]) [0] rfl
    have hD9 := hD.sub (ws' := [(h0, .inr (11, [V0 0, V0 1, V0 2, V0 3, V0 4, V0 5, V0 6, V0 7, V0 8, V0 9, V0 10, V0 11, V0 12, V0 13, V0 14, V0 15, V0 16, V0 17, V0 18, V0 19, V0 20, V0 21, V0 22, .int v0_token, .long v0_name, V0 25, V0 26, V0 27, V0 28, V0 29, V0 30, V0 31, V0 32, V0 33, V0 34, V0 35, V0 36, V0 37, V0 38, V0 39, V0 40, V0 41, V0 42, V0 43, V0 44, V0 45, V0 46, V0 47, V0 48, V0 49, V0 50, V0 51, V0 52, V0 53, V0 54, V0 55, V0 56, V0 57, V0 58, V0 59, V0 60, V0 61, V0 62, V0 63, V0 64, V0 65, V0 66, V0 67, V0 68, V0 69, V0 70]))]) [0] (by decide) rfl
    exact W.iret (v := z0) hx hb hr (fun t ht hW => ⟨⟨z0, (), rfl, ⟨rfl, rfl⟩, by rw [ht]; exact hP9, va_K.moved hW.alike hK, hD9⟩, hS.F ht⟩) hS.2.2 dX11_kindOf_113
  refine (hG _ _ _ _ _).mpr ?_
  obtain ⟨H, hH⟩ : ∃ H, H = s.heap := ⟨_, rfl⟩
  have hS : va_S A s.heap H [] := by rw [hH]; exact hS
  rw [← hH] at hP ⊢
  generalize ([] : List Loc) = locs at hS ⊢
  unfold fX11_kindOf at hf
  refine lv_aload_n hx hb dX11_kindOf_0 rfl (lv_at hl 0 rfl) ?_
  refine va_get (D := (dC, dI)) (ci := 11) (v := .int v0_token) (C := RX11) (T := TX11) (N := 71) hx hb hts inlX11 hown hK hP 0 rfl rfl 23 (by decide) w0_ (fun _ h9 => h9) rfl dX11_kindOf_1 ?_
  refine lv_iconst (v := 1) hx hb dX11_kindOf_4 (by decide +kernel) ?_
  refine lv_icmp_ne (tgt := 12) hx hb dX11_kindOf_5 (by decide) (fun cq1 => ?_) (fun cq1 => ?_)
  · replace hf := if_no hf cq1
    refine lv_aload_n hx hb dX11_kindOf_12 rfl (lv_at hl 0 rfl) ?_
    refine lv_ldc2 (v := 26982) hx hb hown w1_ dX11_kindOf_13 ?_
    obtain ⟨o2, e2, hf⟩ := ob_some hf
    refine kVi (As := [.long 26982]) (rest := []) ⟨hx, hb, hml, hown, hts⟩ (mX11_isThe l dC dI h0 H.size base 26982 v0_token v0_name V0 o2 e2) (cwV 1 hts (gTV q844 q845 q846 q5 q847) rfl rfl rfl (by decide +kernel) ⟨Nat.le_of_ble_eq_true rfl, Nat.le_of_ble_eq_true rfl⟩) hK hP hD hS hA hE hAB [0] [] [] (wr := []) rfl rfl (by decide) (by decide) (by decide) rfl (ci := 11) (q0 := 0) rfl rfl rfl rfl hl.1 rfl (Nat.le_of_ble_eq_true rfl) dX11_kindOf_16 ⟨Nat.zero_le _, Nat.zero_le _⟩ (fun r2 u2 H locs hw2 hP hD hS => ?_)
    obtain ⟨hw21, hw22⟩ := hw2
    subst hw21 hw22
    have hP : va_P (dC, dI) vwCl [(h0, .inr (11, [V0 0, V0 1, V0 2, V0 3, V0 4, V0 5, V0 6, V0 7, V0 8, V0 9, V0 10, V0 11, V0 12, V0 13, V0 14, V0 15, V0 16, V0 17, V0 18, V0 19, V0 20, V0 21, V0 22, .int v0_token, .long v0_name, V0 25, V0 26, V0 27, V0 28, V0 29, V0 30, V0 31, V0 32, V0 33, V0 34, V0 35, V0 36, V0 37, V0 38, V0 39, V0 40, V0 41, V0 42, V0 43, V0 44, V0 45, V0 46, V0 47, V0 48, V0 49, V0 50, V0 51, V0 52, V0 53, V0 54, V0 55, V0 56, V0 57, V0 58, V0 59, V0 60, V0 61, V0 62, V0 63, V0 64, V0 65, V0 66, V0 67, V0 68, V0 69, V0 70]))] H := hP.sub [0] rfl
    have hD : va_D A [(h0, .inr (11, [V0 0, V0 1, V0 2, V0 3, V0 4, V0 5, V0 6, V0 7, V0 8, V0 9, V0 10, V0 11, V0 12, V0 13, V0 14, V0 15, V0 16, V0 17, V0 18, V0 19, V0 20, V0 21, V0 22, .int v0_token, .long v0_name, V0 25, V0 26, V0 27, V0 28, V0 29, V0 30, V0 31, V0 32, V0 33, V0 34, V0 35, V0 36, V0 37, V0 38, V0 39, V0 40, V0 41, V0 42, V0 43, V0 44, V0 45, V0 46, V0 47, V0 48, V0 49, V0 50, V0 51, V0 52, V0 53, V0 54, V0 55, V0 56, V0 57, V0 58, V0 59, V0 60, V0 61, V0 62, V0 63, V0 64, V0 65, V0 66, V0 67, V0 68, V0 69, V0 70]))] := hD.sub [0] (by decide) rfl
    refine lv_if_eq (tgt := 26) hx hb dX11_kindOf_19 (by decide) (fun cq3 => ?_) (fun cq3 => ?_)
    · replace hf := if_at hf cq3
      refine lv_aload_n hx hb dX11_kindOf_26 rfl (lv_at hl 0 rfl) ?_
      refine lv_ldc2 (v := 512852847717) hx hb hown w2_ dX11_kindOf_27 ?_
      obtain ⟨o4, e4, hf⟩ := ob_some hf
      refine kVi (As := [.long 512852847717]) (rest := []) ⟨hx, hb, hml, hown, hts⟩ (mX11_isThe l dC dI h0 H.size base 512852847717 v0_token v0_name V0 o4 e4) (cwV 1 hts (gTV q844 q845 q846 q5 q847) rfl rfl rfl (by decide +kernel) ⟨Nat.le_of_ble_eq_true rfl, Nat.le_of_ble_eq_true rfl⟩) hK hP hD hS hA hE hAB [0] [] [] (wr := []) rfl rfl (by decide) (by decide) (by decide) rfl (ci := 11) (q0 := 0) rfl rfl rfl rfl hl.1 rfl (Nat.le_of_ble_eq_true rfl) dX11_kindOf_30 ⟨Nat.zero_le _, Nat.zero_le _⟩ (fun r4 u4 H locs hw4 hP hD hS => ?_)
      obtain ⟨hw41, hw42⟩ := hw4
      subst hw41 hw42
      have hP : va_P (dC, dI) vwCl [(h0, .inr (11, [V0 0, V0 1, V0 2, V0 3, V0 4, V0 5, V0 6, V0 7, V0 8, V0 9, V0 10, V0 11, V0 12, V0 13, V0 14, V0 15, V0 16, V0 17, V0 18, V0 19, V0 20, V0 21, V0 22, .int v0_token, .long v0_name, V0 25, V0 26, V0 27, V0 28, V0 29, V0 30, V0 31, V0 32, V0 33, V0 34, V0 35, V0 36, V0 37, V0 38, V0 39, V0 40, V0 41, V0 42, V0 43, V0 44, V0 45, V0 46, V0 47, V0 48, V0 49, V0 50, V0 51, V0 52, V0 53, V0 54, V0 55, V0 56, V0 57, V0 58, V0 59, V0 60, V0 61, V0 62, V0 63, V0 64, V0 65, V0 66, V0 67, V0 68, V0 69, V0 70]))] H := hP.sub [0] rfl
      have hD : va_D A [(h0, .inr (11, [V0 0, V0 1, V0 2, V0 3, V0 4, V0 5, V0 6, V0 7, V0 8, V0 9, V0 10, V0 11, V0 12, V0 13, V0 14, V0 15, V0 16, V0 17, V0 18, V0 19, V0 20, V0 21, V0 22, .int v0_token, .long v0_name, V0 25, V0 26, V0 27, V0 28, V0 29, V0 30, V0 31, V0 32, V0 33, V0 34, V0 35, V0 36, V0 37, V0 38, V0 39, V0 40, V0 41, V0 42, V0 43, V0 44, V0 45, V0 46, V0 47, V0 48, V0 49, V0 50, V0 51, V0 52, V0 53, V0 54, V0 55, V0 56, V0 57, V0 58, V0 59, V0 60, V0 61, V0 62, V0 63, V0 64, V0 65, V0 66, V0 67, V0 68, V0 69, V0 70]))] := hD.sub [0] (by decide) rfl
      refine lv_if_eq (tgt := 40) hx hb dX11_kindOf_33 (by decide) (fun cq5 => ?_) (fun cq5 => ?_)
      · replace hf := if_at hf cq5
        refine lv_aload_n hx hb dX11_kindOf_40 rfl (lv_at hl 0 rfl) ?_
        refine lv_ldc2 (v := 1667329132) hx hb hown w3_ dX11_kindOf_41 ?_
        obtain ⟨o6, e6, hf⟩ := ob_some hf
        refine kVi (As := [.long 1667329132]) (rest := []) ⟨hx, hb, hml, hown, hts⟩ (mX11_isThe l dC dI h0 H.size base 1667329132 v0_token v0_name V0 o6 e6) (cwV 1 hts (gTV q844 q845 q846 q5 q847) rfl rfl rfl (by decide +kernel) ⟨Nat.le_of_ble_eq_true rfl, Nat.le_of_ble_eq_true rfl⟩) hK hP hD hS hA hE hAB [0] [] [] (wr := []) rfl rfl (by decide) (by decide) (by decide) rfl (ci := 11) (q0 := 0) rfl rfl rfl rfl hl.1 rfl (Nat.le_of_ble_eq_true rfl) dX11_kindOf_44 ⟨Nat.zero_le _, Nat.zero_le _⟩ (fun r6 u6 H locs hw6 hP hD hS => ?_)
        obtain ⟨hw61, hw62⟩ := hw6
        subst hw61 hw62
        have hP : va_P (dC, dI) vwCl [(h0, .inr (11, [V0 0, V0 1, V0 2, V0 3, V0 4, V0 5, V0 6, V0 7, V0 8, V0 9, V0 10, V0 11, V0 12, V0 13, V0 14, V0 15, V0 16, V0 17, V0 18, V0 19, V0 20, V0 21, V0 22, .int v0_token, .long v0_name, V0 25, V0 26, V0 27, V0 28, V0 29, V0 30, V0 31, V0 32, V0 33, V0 34, V0 35, V0 36, V0 37, V0 38, V0 39, V0 40, V0 41, V0 42, V0 43, V0 44, V0 45, V0 46, V0 47, V0 48, V0 49, V0 50, V0 51, V0 52, V0 53, V0 54, V0 55, V0 56, V0 57, V0 58, V0 59, V0 60, V0 61, V0 62, V0 63, V0 64, V0 65, V0 66, V0 67, V0 68, V0 69, V0 70]))] H := hP.sub [0] rfl
        have hD : va_D A [(h0, .inr (11, [V0 0, V0 1, V0 2, V0 3, V0 4, V0 5, V0 6, V0 7, V0 8, V0 9, V0 10, V0 11, V0 12, V0 13, V0 14, V0 15, V0 16, V0 17, V0 18, V0 19, V0 20, V0 21, V0 22, .int v0_token, .long v0_name, V0 25, V0 26, V0 27, V0 28, V0 29, V0 30, V0 31, V0 32, V0 33, V0 34, V0 35, V0 36, V0 37, V0 38, V0 39, V0 40, V0 41, V0 42, V0 43, V0 44, V0 45, V0 46, V0 47, V0 48, V0 49, V0 50, V0 51, V0 52, V0 53, V0 54, V0 55, V0 56, V0 57, V0 58, V0 59, V0 60, V0 61, V0 62, V0 63, V0 64, V0 65, V0 66, V0 67, V0 68, V0 69, V0 70]))] := hD.sub [0] (by decide) rfl
        refine lv_if_eq (tgt := 54) hx hb dX11_kindOf_47 (by decide) (fun cq7 => ?_) (fun cq7 => ?_)
        · replace hf := if_at hf cq7
          refine lv_aload_n hx hb dX11_kindOf_54 rfl (lv_at hl 0 rfl) ?_
          refine lv_ldc2 (v := 107148485161588) hx hb hown w4_ dX11_kindOf_55 ?_
          obtain ⟨o8, e8, hf⟩ := ob_some hf
          refine kVi (As := [.long 107148485161588]) (rest := []) ⟨hx, hb, hml, hown, hts⟩ (mX11_isThe l dC dI h0 H.size base 107148485161588 v0_token v0_name V0 o8 e8) (cwV 1 hts (gTV q844 q845 q846 q5 q847) rfl rfl rfl (by decide +kernel) ⟨Nat.le_of_ble_eq_true rfl, Nat.le_of_ble_eq_true rfl⟩) hK hP hD hS hA hE hAB [0] [] [] (wr := []) rfl rfl (by decide) (by decide) (by decide) rfl (ci := 11) (q0 := 0) rfl rfl rfl rfl hl.1 rfl (Nat.le_of_ble_eq_true rfl) dX11_kindOf_58 ⟨Nat.zero_le _, Nat.zero_le _⟩ (fun r8 u8 H locs hw8 hP hD hS => ?_)
          obtain ⟨hw81, hw82⟩ := hw8
          subst hw81 hw82
          have hP : va_P (dC, dI) vwCl [(h0, .inr (11, [V0 0, V0 1, V0 2, V0 3, V0 4, V0 5, V0 6, V0 7, V0 8, V0 9, V0 10, V0 11, V0 12, V0 13, V0 14, V0 15, V0 16, V0 17, V0 18, V0 19, V0 20, V0 21, V0 22, .int v0_token, .long v0_name, V0 25, V0 26, V0 27, V0 28, V0 29, V0 30, V0 31, V0 32, V0 33, V0 34, V0 35, V0 36, V0 37, V0 38, V0 39, V0 40, V0 41, V0 42, V0 43, V0 44, V0 45, V0 46, V0 47, V0 48, V0 49, V0 50, V0 51, V0 52, V0 53, V0 54, V0 55, V0 56, V0 57, V0 58, V0 59, V0 60, V0 61, V0 62, V0 63, V0 64, V0 65, V0 66, V0 67, V0 68, V0 69, V0 70]))] H := hP.sub [0] rfl
          have hD : va_D A [(h0, .inr (11, [V0 0, V0 1, V0 2, V0 3, V0 4, V0 5, V0 6, V0 7, V0 8, V0 9, V0 10, V0 11, V0 12, V0 13, V0 14, V0 15, V0 16, V0 17, V0 18, V0 19, V0 20, V0 21, V0 22, .int v0_token, .long v0_name, V0 25, V0 26, V0 27, V0 28, V0 29, V0 30, V0 31, V0 32, V0 33, V0 34, V0 35, V0 36, V0 37, V0 38, V0 39, V0 40, V0 41, V0 42, V0 43, V0 44, V0 45, V0 46, V0 47, V0 48, V0 49, V0 50, V0 51, V0 52, V0 53, V0 54, V0 55, V0 56, V0 57, V0 58, V0 59, V0 60, V0 61, V0 62, V0 63, V0 64, V0 65, V0 66, V0 67, V0 68, V0 69, V0 70]))] := hD.sub [0] (by decide) rfl
          refine lv_if_eq (tgt := 68) hx hb dX11_kindOf_61 (by decide) (fun cq9 => ?_) (fun cq9 => ?_)
          · replace hf := if_at hf cq9
            refine lv_aload_n hx hb dX11_kindOf_68 rfl (lv_at hl 0 rfl) ?_
            refine lv_ldc2 (v := 107148486208869) hx hb hown w5_ dX11_kindOf_69 ?_
            obtain ⟨o10, e10, hf⟩ := ob_some hf
            refine kVi (As := [.long 107148486208869]) (rest := []) ⟨hx, hb, hml, hown, hts⟩ (mX11_isThe l dC dI h0 H.size base 107148486208869 v0_token v0_name V0 o10 e10) (cwV 1 hts (gTV q844 q845 q846 q5 q847) rfl rfl rfl (by decide +kernel) ⟨Nat.le_of_ble_eq_true rfl, Nat.le_of_ble_eq_true rfl⟩) hK hP hD hS hA hE hAB [0] [] [] (wr := []) rfl rfl (by decide) (by decide) (by decide) rfl (ci := 11) (q0 := 0) rfl rfl rfl rfl hl.1 rfl (Nat.le_of_ble_eq_true rfl) dX11_kindOf_72 ⟨Nat.zero_le _, Nat.zero_le _⟩ (fun r10 u10 H locs hw10 hP hD hS => ?_)
            obtain ⟨hw101, hw102⟩ := hw10
            subst hw101 hw102
            have hP : va_P (dC, dI) vwCl [(h0, .inr (11, [V0 0, V0 1, V0 2, V0 3, V0 4, V0 5, V0 6, V0 7, V0 8, V0 9, V0 10, V0 11, V0 12, V0 13, V0 14, V0 15, V0 16, V0 17, V0 18, V0 19, V0 20, V0 21, V0 22, .int v0_token, .long v0_name, V0 25, V0 26, V0 27, V0 28, V0 29, V0 30, V0 31, V0 32, V0 33, V0 34, V0 35, V0 36, V0 37, V0 38, V0 39, V0 40, V0 41, V0 42, V0 43, V0 44, V0 45, V0 46, V0 47, V0 48, V0 49, V0 50, V0 51, V0 52, V0 53, V0 54, V0 55, V0 56, V0 57, V0 58, V0 59, V0 60, V0 61, V0 62, V0 63, V0 64, V0 65, V0 66, V0 67, V0 68, V0 69, V0 70]))] H := hP.sub [0] rfl
            have hD : va_D A [(h0, .inr (11, [V0 0, V0 1, V0 2, V0 3, V0 4, V0 5, V0 6, V0 7, V0 8, V0 9, V0 10, V0 11, V0 12, V0 13, V0 14, V0 15, V0 16, V0 17, V0 18, V0 19, V0 20, V0 21, V0 22, .int v0_token, .long v0_name, V0 25, V0 26, V0 27, V0 28, V0 29, V0 30, V0 31, V0 32, V0 33, V0 34, V0 35, V0 36, V0 37, V0 38, V0 39, V0 40, V0 41, V0 42, V0 43, V0 44, V0 45, V0 46, V0 47, V0 48, V0 49, V0 50, V0 51, V0 52, V0 53, V0 54, V0 55, V0 56, V0 57, V0 58, V0 59, V0 60, V0 61, V0 62, V0 63, V0 64, V0 65, V0 66, V0 67, V0 68, V0 69, V0 70]))] := hD.sub [0] (by decide) rfl
            refine lv_if_eq (tgt := 82) hx hb dX11_kindOf_75 (by decide) (fun cq11 => ?_) (fun cq11 => ?_)
            · replace hf := if_at hf cq11
              refine lv_aload_n hx hb dX11_kindOf_82 rfl (lv_at hl 0 rfl) ?_
              refine lv_ldc2 (v := 125780071117422) hx hb hown w6_ dX11_kindOf_83 ?_
              obtain ⟨o12, e12, hf⟩ := ob_some hf
              refine kVi (As := [.long 125780071117422]) (rest := []) ⟨hx, hb, hml, hown, hts⟩ (mX11_isThe l dC dI h0 H.size base 125780071117422 v0_token v0_name V0 o12 e12) (cwV 1 hts (gTV q844 q845 q846 q5 q847) rfl rfl rfl (by decide +kernel) ⟨Nat.le_of_ble_eq_true rfl, Nat.le_of_ble_eq_true rfl⟩) hK hP hD hS hA hE hAB [0] [] [] (wr := []) rfl rfl (by decide) (by decide) (by decide) rfl (ci := 11) (q0 := 0) rfl rfl rfl rfl hl.1 rfl (Nat.le_of_ble_eq_true rfl) dX11_kindOf_86 ⟨Nat.zero_le _, Nat.zero_le _⟩ (fun r12 u12 H locs hw12 hP hD hS => ?_)
              obtain ⟨hw121, hw122⟩ := hw12
              subst hw121 hw122
              have hP : va_P (dC, dI) vwCl [(h0, .inr (11, [V0 0, V0 1, V0 2, V0 3, V0 4, V0 5, V0 6, V0 7, V0 8, V0 9, V0 10, V0 11, V0 12, V0 13, V0 14, V0 15, V0 16, V0 17, V0 18, V0 19, V0 20, V0 21, V0 22, .int v0_token, .long v0_name, V0 25, V0 26, V0 27, V0 28, V0 29, V0 30, V0 31, V0 32, V0 33, V0 34, V0 35, V0 36, V0 37, V0 38, V0 39, V0 40, V0 41, V0 42, V0 43, V0 44, V0 45, V0 46, V0 47, V0 48, V0 49, V0 50, V0 51, V0 52, V0 53, V0 54, V0 55, V0 56, V0 57, V0 58, V0 59, V0 60, V0 61, V0 62, V0 63, V0 64, V0 65, V0 66, V0 67, V0 68, V0 69, V0 70]))] H := hP.sub [0] rfl
              have hD : va_D A [(h0, .inr (11, [V0 0, V0 1, V0 2, V0 3, V0 4, V0 5, V0 6, V0 7, V0 8, V0 9, V0 10, V0 11, V0 12, V0 13, V0 14, V0 15, V0 16, V0 17, V0 18, V0 19, V0 20, V0 21, V0 22, .int v0_token, .long v0_name, V0 25, V0 26, V0 27, V0 28, V0 29, V0 30, V0 31, V0 32, V0 33, V0 34, V0 35, V0 36, V0 37, V0 38, V0 39, V0 40, V0 41, V0 42, V0 43, V0 44, V0 45, V0 46, V0 47, V0 48, V0 49, V0 50, V0 51, V0 52, V0 53, V0 54, V0 55, V0 56, V0 57, V0 58, V0 59, V0 60, V0 61, V0 62, V0 63, V0 64, V0 65, V0 66, V0 67, V0 68, V0 69, V0 70]))] := hD.sub [0] (by decide) rfl
              refine lv_if_eq (tgt := 97) hx hb dX11_kindOf_89 (by decide) (fun cq13 => ?_) (fun cq13 => ?_)
              · replace hf := if_at hf cq13
                refine lv_aload_n hx hb dX11_kindOf_97 rfl (lv_at hl 0 rfl) ?_
                refine lv_ldc2 (v := 1936419184) hx hb hown w7_ dX11_kindOf_98 ?_
                obtain ⟨o14, e14, hf⟩ := ob_some hf
                refine kVi (As := [.long 1936419184]) (rest := []) ⟨hx, hb, hml, hown, hts⟩ (mX11_isThe l dC dI h0 H.size base 1936419184 v0_token v0_name V0 o14 e14) (cwV 1 hts (gTV q844 q845 q846 q5 q847) rfl rfl rfl (by decide +kernel) ⟨Nat.le_of_ble_eq_true rfl, Nat.le_of_ble_eq_true rfl⟩) hK hP hD hS hA hE hAB [0] [] [] (wr := []) rfl rfl (by decide) (by decide) (by decide) rfl (ci := 11) (q0 := 0) rfl rfl rfl rfl hl.1 rfl (Nat.le_of_ble_eq_true rfl) dX11_kindOf_101 ⟨Nat.zero_le _, Nat.zero_le _⟩ (fun r14 u14 H locs hw14 hP hD hS => ?_)
                obtain ⟨hw141, hw142⟩ := hw14
                subst hw141 hw142
                have hP : va_P (dC, dI) vwCl [(h0, .inr (11, [V0 0, V0 1, V0 2, V0 3, V0 4, V0 5, V0 6, V0 7, V0 8, V0 9, V0 10, V0 11, V0 12, V0 13, V0 14, V0 15, V0 16, V0 17, V0 18, V0 19, V0 20, V0 21, V0 22, .int v0_token, .long v0_name, V0 25, V0 26, V0 27, V0 28, V0 29, V0 30, V0 31, V0 32, V0 33, V0 34, V0 35, V0 36, V0 37, V0 38, V0 39, V0 40, V0 41, V0 42, V0 43, V0 44, V0 45, V0 46, V0 47, V0 48, V0 49, V0 50, V0 51, V0 52, V0 53, V0 54, V0 55, V0 56, V0 57, V0 58, V0 59, V0 60, V0 61, V0 62, V0 63, V0 64, V0 65, V0 66, V0 67, V0 68, V0 69, V0 70]))] H := hP.sub [0] rfl
                have hD : va_D A [(h0, .inr (11, [V0 0, V0 1, V0 2, V0 3, V0 4, V0 5, V0 6, V0 7, V0 8, V0 9, V0 10, V0 11, V0 12, V0 13, V0 14, V0 15, V0 16, V0 17, V0 18, V0 19, V0 20, V0 21, V0 22, .int v0_token, .long v0_name, V0 25, V0 26, V0 27, V0 28, V0 29, V0 30, V0 31, V0 32, V0 33, V0 34, V0 35, V0 36, V0 37, V0 38, V0 39, V0 40, V0 41, V0 42, V0 43, V0 44, V0 45, V0 46, V0 47, V0 48, V0 49, V0 50, V0 51, V0 52, V0 53, V0 54, V0 55, V0 56, V0 57, V0 58, V0 59, V0 60, V0 61, V0 62, V0 63, V0 64, V0 65, V0 66, V0 67, V0 68, V0 69, V0 70]))] := hD.sub [0] (by decide) rfl
                refine lv_if_eq (tgt := 112) hx hb dX11_kindOf_104 (by decide) (fun cq15 => ?_) (fun cq15 => ?_)
                · replace hf := if_at hf cq15
                  refine lv_iconst (v := (-1)) hx hb dX11_kindOf_112 (by decide +kernel) ?_
                  exact (hG _ _ _ _ _).mp (J113 (-1) H locs ls (hP.sub [0] rfl) (hD.sub [0] (by decide) rfl) hS (lv_sub hl [0] rfl) hf)
                · replace hf := if_no hf cq15
                  refine lv_bipush (v := 7) hx hb dX11_kindOf_107 (by decide +kernel) ?_
                  refine lv_goto (tgt := 113) hx hb dX11_kindOf_109 (by decide) ?_
                  exact (hG _ _ _ _ _).mp (J113 7 H locs ls (hP.sub [0] rfl) (hD.sub [0] (by decide) rfl) hS (lv_sub hl [0] rfl) hf)
              · replace hf := if_no hf cq13
                refine lv_bipush (v := 6) hx hb dX11_kindOf_92 (by decide +kernel) ?_
                refine lv_goto (tgt := 113) hx hb dX11_kindOf_94 (by decide) ?_
                exact (hG _ _ _ _ _).mp (J113 6 H locs ls (hP.sub [0] rfl) (hD.sub [0] (by decide) rfl) hS (lv_sub hl [0] rfl) hf)
            · replace hf := if_no hf cq11
              refine lv_iconst (v := 5) hx hb dX11_kindOf_78 (by decide +kernel) ?_
              refine lv_goto (tgt := 113) hx hb dX11_kindOf_79 (by decide) ?_
              exact (hG _ _ _ _ _).mp (J113 5 H locs ls (hP.sub [0] rfl) (hD.sub [0] (by decide) rfl) hS (lv_sub hl [0] rfl) hf)
          · replace hf := if_no hf cq9
            refine lv_iconst (v := 4) hx hb dX11_kindOf_64 (by decide +kernel) ?_
            refine lv_goto (tgt := 113) hx hb dX11_kindOf_65 (by decide) ?_
            exact (hG _ _ _ _ _).mp (J113 4 H locs ls (hP.sub [0] rfl) (hD.sub [0] (by decide) rfl) hS (lv_sub hl [0] rfl) hf)
        · replace hf := if_no hf cq7
          refine lv_iconst (v := 3) hx hb dX11_kindOf_50 (by decide +kernel) ?_
          refine lv_goto (tgt := 113) hx hb dX11_kindOf_51 (by decide) ?_
          exact (hG _ _ _ _ _).mp (J113 3 H locs ls (hP.sub [0] rfl) (hD.sub [0] (by decide) rfl) hS (lv_sub hl [0] rfl) hf)
      · replace hf := if_no hf cq5
        refine lv_iconst (v := 2) hx hb dX11_kindOf_36 (by decide +kernel) ?_
        refine lv_goto (tgt := 113) hx hb dX11_kindOf_37 (by decide) ?_
        exact (hG _ _ _ _ _).mp (J113 2 H locs ls (hP.sub [0] rfl) (hD.sub [0] (by decide) rfl) hS (lv_sub hl [0] rfl) hf)
    · replace hf := if_no hf cq3
      refine lv_iconst (v := 1) hx hb dX11_kindOf_22 (by decide +kernel) ?_
      refine lv_goto (tgt := 113) hx hb dX11_kindOf_23 (by decide) ?_
      exact (hG _ _ _ _ _).mp (J113 1 H locs ls (hP.sub [0] rfl) (hD.sub [0] (by decide) rfl) hS (lv_sub hl [0] rfl) hf)
  · replace hf := if_at hf cq1
    refine lv_iconst (v := 0) hx hb dX11_kindOf_8 (by decide +kernel) ?_
    refine lv_goto (tgt := 113) hx hb dX11_kindOf_9 (by decide) ?_
    exact (hG _ _ _ _ _).mp (J113 0 H locs ls (hP.sub [0] rfl) (hD.sub [0] (by decide) rfl) hS (lv_sub hl [0] rfl) hf)
abbrev wX11_meetsEnd (h0 h1 : Nat) (kc1 : ClassId) (V0 : Nat → Value) (c1 : Nat → Int32) : va_W := [(h0, .inr (11, [V0 0, V0 1, V0 2, V0 3, V0 4, .ref h1, V0 6, V0 7, V0 8, V0 9, V0 10, V0 11, V0 12, V0 13, V0 14, V0 15, V0 16, V0 17, V0 18, V0 19, V0 20, V0 21, V0 22, V0 23, V0 24, V0 25, V0 26, V0 27, V0 28, V0 29, V0 30, V0 31, V0 32, V0 33, V0 34, V0 35, V0 36, V0 37, V0 38, V0 39, V0 40, V0 41, V0 42, V0 43, V0 44, V0 45, V0 46, V0 47, V0 48, V0 49, V0 50, V0 51, V0 52, V0 53, V0 54, V0 55, V0 56, V0 57, V0 58, V0 59, V0 60, V0 61, V0 62, V0 63, V0 64, V0 65, V0 66, V0 67, V0 68, V0 69, V0 70])), (h1, .inl (kc1, 16, .inl c1))]
set_option maxHeartbeats 4000000 in
set_option maxRecDepth 100000 in
theorem mX11_meetsEnd (l : Launch) (dC : Nat → ClassId) (dI : Nat → Nat → Nat) (h0 h1 : Nat) (kc1 : ClassId) (sz : Nat) (base : Nat × Nat × Nat) (a0 : Int32) (c1 : Nat → Int32) (V0 : Nat → Value) (o : Int32 × Unit) (hf : fX11_meetsEnd a0 c1 = some o) : Met l yX11_meetsEnd (.code yX11_meetsEnd cX11_meetsEnd 4 (some .boolean) :: wsL_law) ({ frames := 0, cells := 0, slots := 0, locals := 0 }) (cPre (dC, dI) vwCl [.ref h0, .int a0] sz base (wX11_meetsEnd h0 h1 kc1 V0 c1) [(kc1, .boolean)]) (va_Qi (fun r u => r = o.1 ∧ u = o.2) (fun (u : Unit) t => cPost (dC, dI) vwCl (va_A (wX11_meetsEnd h0 h1 kc1 V0 c1) sz) (wX11_meetsEnd h0 h1 kc1 V0 c1) [(kc1, .boolean)] t) (va_A (wX11_meetsEnd h0 h1 kc1 V0 c1) sz)) 0 0 (va_A (wX11_meetsEnd h0 h1 kc1 V0 c1) sz) := by
  refine Met.ofW (cc := cX11_meetsEnd) (maxL := 4) (ret := (some .boolean)) (by decide) rfl ?_
  intro p e s m args below meth c s₁ B hml hv
  obtain ⟨rfl, hsz, hP, hK, hD0, hE⟩ := hv
  have hx := B.exec
  have hb := B.bytes
  have hr := B.returns
  have hts : ∀ w ∈ wsL_law, _ := fun w h => atoms_spec (ws := .code yX11_meetsEnd cX11_meetsEnd 4 (some .boolean) :: wsL_law) B.pre w (List.mem_cons_of_mem _ h)
  have hown : s.vm.findClass RX11 = some m.cls := findClass_of_methodNamed B.named
  have hlocks := B.notSynchronized
  have w0_ := hts _ q81
  subst hsz
  have hD := hD0.self (sz := s.heap.size)
  generalize hAe : va_A (wX11_meetsEnd h0 h1 kc1 V0 c1) s.heap.size = A at hD ⊢
  have hA : ∀ q : Nat, s.heap.size ≤ q → A q := fun q h => by rw [← hAe]; exact Or.inr h
  have hAB : ∀ q : Nat, A q → base.1 ≤ q := fun q h => by rw [← hAe] at h; exact h.elim (fun ⟨k, e, hk⟩ => hD0.2 k _ hk) (fun hk => Nat.le_trans hE.1 hk)
  have hS : va_S A s.heap s.heap [] := va_S.rf
  have hl := lv_entry ([.ref h0, .int a0]) (n := 4) (Nat.le_of_ble_eq_true rfl)
  rw [lg_entry_eq]
  generalize (lg_sl ([.ref h0, .int a0]) ++ List.replicate (4 - (lg_sl ([.ref h0, .int a0])).length) Slot.unset).toArray = ls at hl ⊢
  have hl : lv_has ls 4 [(0, .ref h0), (1, .int a0)] := hl
  have hP : va_P (dC, dI) vwCl (wX11_meetsEnd h0 h1 kc1 V0 c1) s.heap := hP
  refine gl_intro (fun G hG => ?_)
  have J37 : ∀ (k4 : Int32 → Int32 → Int32 → Option (Int32 × Unit)) (hk4 : ∀ (y1 : Int32) (y2 : Int32) (y3 : Int32) (H : Heap) (locs : List Loc) (ls : Array Slot), va_P (dC, dI) vwCl (wX11_meetsEnd h0 h1 kc1 V0 c1) H → va_D A (wX11_meetsEnd h0 h1 kc1 V0 c1) → va_S A s.heap H locs → lv_has ls 4 [(0, .ref h0), (1, .int y1), (2, .int y2), (3, .int y3)] → k4 y1 y2 y3 = some o → G 0 0 H locs (F0 m 4 ls [])), ∀ (y1 : Int32) (y3 : Int32) (z0 : Int32) (H : Heap) (locs : List Loc) (ls : Array Slot), va_P (dC, dI) vwCl (wX11_meetsEnd h0 h1 kc1 V0 c1) H → va_D A (wX11_meetsEnd h0 h1 kc1 V0 c1) → va_S A s.heap H locs → lv_has ls 4 [(0, .ref h0), (1, .int y1), (3, .int y3)] → fX11_meetsEnd_p37 c1 k4 y1 y3 z0 = some o → G 0 0 H locs (F0 m 37 ls [.int z0]) := by
    intro k4 hk4 y1 y3 z0 H locs ls hP hD hS hl hf
    refine (hG _ _ _ _ _).mpr ?_
    unfold fX11_meetsEnd_p37 at hf
    refine lv_istore_n (lv' := [(2, .int z0), (0, .ref h0), (1, .int y1), (3, .int y3)]) hx hb dX11_meetsEnd_37 rfl hl (by decide) rfl (fun ls hl => ?_)
    obtain ⟨x1, e1⟩ : ∃ y : Int32, y = y3 + 1 := ⟨_, rfl⟩
    replace hf := nm_at hf e1
    refine lv_iinc (v := x1) (lv' := [(3, .int x1), (2, .int z0), (0, .ref h0), (1, .int y1)]) hx hb dX11_meetsEnd_38 hl (k := 3) rfl (by rw [e1]; rfl) (by decide) rfl (fun ls hl => ?_)
    refine lv_goto (tgt := 4) hx hb dX11_meetsEnd_41 (by decide) ?_
    exact (hG _ _ _ _ _).mp (hk4 y1 z0 x1 H locs ls (hP.sub [0, 1] rfl) (hD.sub [0, 1] (by decide) rfl) hS (lv_sub hl [2, 3, 1, 0] rfl) hf)
  have J32 : ∀ (k4 : Int32 → Int32 → Int32 → Option (Int32 × Unit)) (hk4 : ∀ (y1 : Int32) (y2 : Int32) (y3 : Int32) (H : Heap) (locs : List Loc) (ls : Array Slot), va_P (dC, dI) vwCl (wX11_meetsEnd h0 h1 kc1 V0 c1) H → va_D A (wX11_meetsEnd h0 h1 kc1 V0 c1) → va_S A s.heap H locs → lv_has ls 4 [(0, .ref h0), (1, .int y1), (2, .int y2), (3, .int y3)] → k4 y1 y2 y3 = some o → G 0 0 H locs (F0 m 4 ls [])), ∀ (y1 : Int32) (y3 : Int32) (H : Heap) (locs : List Loc) (ls : Array Slot), va_P (dC, dI) vwCl (wX11_meetsEnd h0 h1 kc1 V0 c1) H → va_D A (wX11_meetsEnd h0 h1 kc1 V0 c1) → va_S A s.heap H locs → lv_has ls 4 [(0, .ref h0), (1, .int y1), (3, .int y3)] → fX11_meetsEnd_p32 c1 k4 y1 y3 = some o → G 0 0 H locs (F0 m 32 ls []) := by
    intro k4 hk4 y1 y3 H locs ls hP hD hS hl hf
    refine (hG _ _ _ _ _).mpr ?_
    unfold fX11_meetsEnd_p32 at hf
    refine lv_iconst (v := 1) hx hb dX11_meetsEnd_32 (by decide +kernel) ?_
    refine lv_goto (tgt := 37) hx hb dX11_meetsEnd_33 (by decide) ?_
    exact (hG _ _ _ _ _).mp (J37 k4 hk4 y1 y3 1 H locs ls (hP.sub [0, 1] rfl) (hD.sub [0, 1] (by decide) rfl) hS (lv_sub hl [0, 1, 2] rfl) hf)
  have J36 : ∀ (k4 : Int32 → Int32 → Int32 → Option (Int32 × Unit)) (hk4 : ∀ (y1 : Int32) (y2 : Int32) (y3 : Int32) (H : Heap) (locs : List Loc) (ls : Array Slot), va_P (dC, dI) vwCl (wX11_meetsEnd h0 h1 kc1 V0 c1) H → va_D A (wX11_meetsEnd h0 h1 kc1 V0 c1) → va_S A s.heap H locs → lv_has ls 4 [(0, .ref h0), (1, .int y1), (2, .int y2), (3, .int y3)] → k4 y1 y2 y3 = some o → G 0 0 H locs (F0 m 4 ls [])), ∀ (y1 : Int32) (y3 : Int32) (H : Heap) (locs : List Loc) (ls : Array Slot), va_P (dC, dI) vwCl (wX11_meetsEnd h0 h1 kc1 V0 c1) H → va_D A (wX11_meetsEnd h0 h1 kc1 V0 c1) → va_S A s.heap H locs → lv_has ls 4 [(0, .ref h0), (1, .int y1), (3, .int y3)] → fX11_meetsEnd_p36 c1 k4 y1 y3 = some o → G 0 0 H locs (F0 m 36 ls []) := by
    intro k4 hk4 y1 y3 H locs ls hP hD hS hl hf
    refine (hG _ _ _ _ _).mpr ?_
    unfold fX11_meetsEnd_p36 at hf
    refine lv_iconst (v := 0) hx hb dX11_meetsEnd_36 (by decide +kernel) ?_
    exact (hG _ _ _ _ _).mp (J37 k4 hk4 y1 y3 0 H locs ls (hP.sub [0, 1] rfl) (hD.sub [0, 1] (by decide) rfl) hS (lv_sub hl [0, 1, 2] rfl) hf)
  have B4 : ∀ (k4 : Int32 → Int32 → Int32 → Option (Int32 × Unit)) (hk4 : ∀ (y1 : Int32) (y2 : Int32) (y3 : Int32) (H : Heap) (locs : List Loc) (ls : Array Slot), va_P (dC, dI) vwCl (wX11_meetsEnd h0 h1 kc1 V0 c1) H → va_D A (wX11_meetsEnd h0 h1 kc1 V0 c1) → va_S A s.heap H locs → lv_has ls 4 [(0, .ref h0), (1, .int y1), (2, .int y2), (3, .int y3)] → k4 y1 y2 y3 = some o → G 0 0 H locs (F0 m 4 ls [])), ∀ (y1 : Int32) (y2 : Int32) (y3 : Int32) (H : Heap) (locs : List Loc) (ls : Array Slot), va_P (dC, dI) vwCl (wX11_meetsEnd h0 h1 kc1 V0 c1) H → va_D A (wX11_meetsEnd h0 h1 kc1 V0 c1) → va_S A s.heap H locs → lv_has ls 4 [(0, .ref h0), (1, .int y1), (2, .int y2), (3, .int y3)] → fX11_meetsEnd_b4 c1  k4 y1 y2 y3 = some o → G 0 0 H locs (F0 m 4 ls []) := by
    intro  k4 hk4 y1 y2 y3 H locs ls hP hD hS hl hf
    refine (hG _ _ _ _ _).mpr ?_
    unfold fX11_meetsEnd_b4 at hf
    refine lv_iload_n hx hb dX11_meetsEnd_4 rfl (lv_at hl 3 rfl) ?_
    refine lv_bipush (v := 16) hx hb dX11_meetsEnd_5 (by decide +kernel) ?_
    refine lv_icmp_ge (tgt := 44) hx hb dX11_meetsEnd_7 (by decide) (fun cq2 => ?_) (fun cq2 => ?_)
    · replace hf := if_at hf cq2
      refine lv_iload_n hx hb dX11_meetsEnd_44 rfl (lv_at hl 2 rfl) ?_
      have b3 := bd_b hf
      replace hf := bd_k hf
      have hf1 := Option.some.inj hf
      subst hf1
      have hP9 := hP.sub (ws' := (wX11_meetsEnd h0 h1 kc1 V0 c1)) [0, 1] rfl
      have hD9 := hD.sub (ws' := (wX11_meetsEnd h0 h1 kc1 V0 c1)) [0, 1] (by decide) rfl
      exact W.zret (v := y2) (ty := .boolean) hx hb hr (bz_nar b3) (fun t ht hW => ⟨⟨y2, (), rfl, ⟨rfl, rfl⟩, by rw [ht]; exact hP9, va_K.moved hW.alike hK, hD9⟩, hS.F ht⟩) hS.2.2 dX11_meetsEnd_45
    · replace hf := if_no hf cq2
      refine lv_iload_n hx hb dX11_meetsEnd_10 rfl (lv_at hl 2 rfl) ?_
      refine lv_if_ne (tgt := 32) hx hb dX11_meetsEnd_11 (by decide) (fun cq4 => ?_) (fun cq4 => ?_)
      · replace hf := if_no hf cq4
        exact (hG _ _ _ _ _).mp (J32 k4 hk4 y1 y3 H locs ls (hP.sub [0, 1] rfl) (hD.sub [0, 1] (by decide) rfl) hS (lv_sub hl [0, 1, 3] rfl) hf)
      · replace hf := if_at hf cq4
        refine lv_iload_n hx hb dX11_meetsEnd_14 rfl (lv_at hl 1 rfl) ?_
        refine lv_iload_n hx hb dX11_meetsEnd_15 rfl (lv_at hl 3 rfl) ?_
        refine lv_ishr hx hb dX11_meetsEnd_16 ?_
        refine lv_topi (fun x5 e5 => ?_)
        replace hf := nm_at hf e5
        refine lv_iconst (v := 1) hx hb dX11_meetsEnd_17 (by decide +kernel) ?_
        refine lv_iand hx hb dX11_meetsEnd_18 ?_
        refine lv_topi (fun x6 e6 => ?_)
        replace hf := nm_at hf e6
        refine lv_iconst (v := 1) hx hb dX11_meetsEnd_19 (by decide +kernel) ?_
        refine lv_icmp_ne (tgt := 36) hx hb dX11_meetsEnd_20 (by decide) (fun cq7 => ?_) (fun cq7 => ?_)
        · replace hf := if_no hf cq7
          exact (hG _ _ _ _ _).mp (J36 k4 hk4 y1 y3 H locs ls (hP.sub [0, 1] rfl) (hD.sub [0, 1] (by decide) rfl) hS (lv_sub hl [0, 1, 3] rfl) hf)
        · replace hf := if_at hf cq7
          refine lv_aload_n hx hb dX11_meetsEnd_23 rfl (lv_at hl 0 rfl) ?_
          refine va_get (D := (dC, dI)) (ci := 11) (v := .ref h1) (C := RX11) (T := TX11) (N := 71) hx hb hts inlX11 hown hK hP 0 rfl rfl 5 (by decide) w0_ (fun _ h9 => h9) rfl dX11_meetsEnd_24 ?_
          refine lv_iload_n hx hb dX11_meetsEnd_27 rfl (lv_at hl 3 rfl) ?_
          have b8 := bd_in hf
          replace hf := bd_k hf
          refine va_zald hx hb hK hP 1 0 rfl rfl b8 dX11_meetsEnd_28 ?_
          refine lv_topi (fun x9 e9 => ?_)
          replace hf := nm_at hf e9
          refine lv_if_eq (tgt := 36) hx hb dX11_meetsEnd_29 (by decide) (fun cq10 => ?_) (fun cq10 => ?_)
          · replace hf := if_at hf cq10
            exact (hG _ _ _ _ _).mp (J36 k4 hk4 y1 y3 H locs ls (hP.sub [0, 1] rfl) (hD.sub [0, 1] (by decide) rfl) hS (lv_sub hl [0, 1, 3] rfl) hf)
          · replace hf := if_no hf cq10
            exact (hG _ _ _ _ _).mp (J32 k4 hk4 y1 y3 H locs ls (hP.sub [0, 1] rfl) (hD.sub [0, 1] (by decide) rfl) hS (lv_sub hl [0, 1, 3] rfl) hf)
  have L4 : ∀ (n : Nat), ∀ (y1 : Int32) (y2 : Int32) (y3 : Int32) (H : Heap) (locs : List Loc) (ls : Array Slot), va_P (dC, dI) vwCl (wX11_meetsEnd h0 h1 kc1 V0 c1) H → va_D A (wX11_meetsEnd h0 h1 kc1 V0 c1) → va_S A s.heap H locs → lv_has ls 4 [(0, .ref h0), (1, .int y1), (2, .int y2), (3, .int y3)] → fX11_meetsEnd_l4 c1  n y1 y2 y3 = some o → G 0 0 H locs (F0 m 4 ls []) := by
    intro  n
    induction n with
    | zero => intro y1 y2 y3 H locs ls _ _ _ _ hf; cases hf
    | succ n ih => exact B4  _ ih
  refine (hG _ _ _ _ _).mpr ?_
  obtain ⟨H, hH⟩ : ∃ H, H = s.heap := ⟨_, rfl⟩
  have hS : va_S A s.heap H [] := by rw [hH]; exact hS
  rw [← hH] at hP ⊢
  generalize ([] : List Loc) = locs at hS ⊢
  unfold fX11_meetsEnd at hf
  refine lv_iconst (v := 0) hx hb dX11_meetsEnd_0 (by decide +kernel) ?_
  refine lv_istore_n (lv' := [(2, .int 0), (0, .ref h0), (1, .int a0)]) hx hb dX11_meetsEnd_1 rfl hl (by decide) rfl (fun ls hl => ?_)
  refine lv_iconst (v := 0) hx hb dX11_meetsEnd_2 (by decide +kernel) ?_
  refine lv_istore_n (lv' := [(3, .int 0), (2, .int 0), (0, .ref h0), (1, .int a0)]) hx hb dX11_meetsEnd_3 rfl hl (by decide) rfl (fun ls hl => ?_)
  exact (hG _ _ _ _ _).mp (L4 FU a0 0 0 H locs ls (hP.sub [0, 1] rfl) (hD.sub [0, 1] (by decide) rfl) hS (lv_sub hl [2, 3, 1, 0] rfl) hf)
abbrev wX11_lies (h0 h1 h2 h3 : Nat) (kc1 kc2 kc3 : ClassId) (V0 : Nat → Value) (v0_thrown : Int32) (v0_size : Int32) (c1 : Nat → Int32) (c2 : Nat → Int32) (c3 : Nat → Int32) : va_W := [(h0, .inr (11, [.int v0_thrown, V0 1, V0 2, V0 3, .ref h2, .ref h3, .int v0_size, .ref h1, V0 8, V0 9, V0 10, V0 11, V0 12, V0 13, V0 14, V0 15, V0 16, V0 17, V0 18, V0 19, V0 20, V0 21, V0 22, V0 23, V0 24, V0 25, V0 26, V0 27, V0 28, V0 29, V0 30, V0 31, V0 32, V0 33, V0 34, V0 35, V0 36, V0 37, V0 38, V0 39, V0 40, V0 41, V0 42, V0 43, V0 44, V0 45, V0 46, V0 47, V0 48, V0 49, V0 50, V0 51, V0 52, V0 53, V0 54, V0 55, V0 56, V0 57, V0 58, V0 59, V0 60, V0 61, V0 62, V0 63, V0 64, V0 65, V0 66, V0 67, V0 68, V0 69, V0 70])), (h1, .inl (kc1, 30, .inl c1)), (h2, .inl (kc2, 3072, .inl c2)), (h3, .inl (kc3, 16, .inl c3))]
set_option maxHeartbeats 4000000 in
set_option maxRecDepth 100000 in
theorem mX11_lies (l : Launch) (dC : Nat → ClassId) (dI : Nat → Nat → Nat) (h0 h1 h2 h3 : Nat) (kc1 kc2 kc3 : ClassId) (sz : Nat) (base : Nat × Nat × Nat) (a0 : Int32) (v0_thrown : Int32) (v0_size : Int32) (c1 : Nat → Int32) (c2 : Nat → Int32) (c3 : Nat → Int32) (V0 : Nat → Value) (o : Int32 × Int32) (hf : fX11_lies a0 v0_thrown v0_size c1 c2 c3 = some o) : Met l yX11_lies (.code yX11_lies cX11_lies 7 (some .int) :: wsL_law) ({ frames := 1, cells := 0, slots := 0, locals := 23 }) (cPre (dC, dI) vwCl [.ref h0, .int a0] sz base (wX11_lies h0 h1 h2 h3 kc1 kc2 kc3 V0 v0_thrown v0_size c1 c2 c3) [(kc1, .int), (kc2, .boolean), (kc3, .boolean)]) (va_Qi (fun r u => r = o.1 ∧ u = o.2) (fun (u : Int32) t => cPost (dC, dI) vwCl (va_A (wX11_lies h0 h1 h2 h3 kc1 kc2 kc3 V0 v0_thrown v0_size c1 c2 c3) sz) (wX11_lies h0 h1 h2 h3 kc1 kc2 kc3 V0 u v0_size c1 c2 c3) [(kc1, .int), (kc2, .boolean), (kc3, .boolean)] t) (va_A (wX11_lies h0 h1 h2 h3 kc1 kc2 kc3 V0 v0_thrown v0_size c1 c2 c3) sz)) 0 0 (va_A (wX11_lies h0 h1 h2 h3 kc1 kc2 kc3 V0 v0_thrown v0_size c1 c2 c3) sz) := by
  refine Met.ofW (cc := cX11_lies) (maxL := 7) (ret := (some .int)) (by decide) rfl ?_
  intro p e s m args below meth c s₁ B hml hv
  obtain ⟨rfl, hsz, hP, hK, hD0, hE⟩ := hv
  have hx := B.exec
  have hb := B.bytes
  have hr := B.returns
  have hts : ∀ w ∈ wsL_law, _ := fun w h => atoms_spec (ws := .code yX11_lies cX11_lies 7 (some .int) :: wsL_law) B.pre w (List.mem_cons_of_mem _ h)
  have hown : s.vm.findClass RX11 = some m.cls := findClass_of_methodNamed B.named
  have hlocks := B.notSynchronized
  have w0_ := hts _ q80
  have w1_ := hts _ q82
  have w2_ := hts _ q146
  have w3_ := hts _ q216
  subst hsz
  have hD := hD0.self (sz := s.heap.size)
  generalize hAe : va_A (wX11_lies h0 h1 h2 h3 kc1 kc2 kc3 V0 v0_thrown v0_size c1 c2 c3) s.heap.size = A at hD ⊢
  have hA : ∀ q : Nat, s.heap.size ≤ q → A q := fun q h => by rw [← hAe]; exact Or.inr h
  have hAB : ∀ q : Nat, A q → base.1 ≤ q := fun q h => by rw [← hAe] at h; exact h.elim (fun ⟨k, e, hk⟩ => hD0.2 k _ hk) (fun hk => Nat.le_trans hE.1 hk)
  have hS : va_S A s.heap s.heap [] := va_S.rf
  have hl := lv_entry ([.ref h0, .int a0]) (n := 7) (Nat.le_of_ble_eq_true rfl)
  rw [lg_entry_eq]
  generalize (lg_sl ([.ref h0, .int a0]) ++ List.replicate (7 - (lg_sl ([.ref h0, .int a0])).length) Slot.unset).toArray = ls at hl ⊢
  have hl : lv_has ls 7 [(0, .ref h0), (1, .int a0)] := hl
  have hP : va_P (dC, dI) vwCl (wX11_lies h0 h1 h2 h3 kc1 kc2 kc3 V0 v0_thrown v0_size c1 c2 c3) s.heap := hP
  refine gl_intro (fun G hG => ?_)
  have J141 : ∀ (z0 : Int32) (v0_thrown : Int32) (H : Heap) (locs : List Loc) (ls : Array Slot), va_P (dC, dI) vwCl (wX11_lies h0 h1 h2 h3 kc1 kc2 kc3 V0 v0_thrown v0_size c1 c2 c3) H → va_D A (wX11_lies h0 h1 h2 h3 kc1 kc2 kc3 V0 v0_thrown v0_size c1 c2 c3) → va_S A s.heap H locs → lv_has ls 7 [(0, .ref h0)] → fX11_lies_p141 v0_size c1 c2 c3  z0 v0_thrown = some o → G 0 0 H locs (F0 m 141 ls [.int z0]) := by
    intro  z0 v0_thrown H locs ls hP hD hS hl hf
    refine (hG _ _ _ _ _).mpr ?_
    unfold fX11_lies_p141 at hf
    have hf1 := Option.some.inj hf
    subst hf1
    have hP9 := hP.sub (ws' := (wX11_lies h0 h1 h2 h3 kc1 kc2 kc3 V0 v0_thrown v0_size c1 c2 c3)) [0, 1, 2, 3] rfl
    have hD9 := hD.sub (ws' := (wX11_lies h0 h1 h2 h3 kc1 kc2 kc3 V0 v0_thrown v0_size c1 c2 c3)) [0, 1, 2, 3] (by decide) rfl
    exact W.iret (v := z0) hx hb hr (fun t ht hW => ⟨⟨z0, v0_thrown, rfl, ⟨rfl, rfl⟩, by rw [ht]; exact hP9, va_K.moved hW.alike hK, hD9⟩, hS.F ht⟩) hS.2.2 dX11_lies_141
  have J104 : ∀ (k29 : Int32 → Int32 → Int32 → Option (Int32 × Int32)) (hk29 : ∀ (y2 : Int32) (y3 : Int32) (v0_thrown : Int32) (H : Heap) (locs : List Loc) (ls : Array Slot), va_P (dC, dI) vwCl (wX11_lies h0 h1 h2 h3 kc1 kc2 kc3 V0 v0_thrown v0_size c1 c2 c3) H → va_D A (wX11_lies h0 h1 h2 h3 kc1 kc2 kc3 V0 v0_thrown v0_size c1 c2 c3) → va_S A s.heap H locs → lv_has ls 7 [(0, .ref h0), (2, .int y2), (3, .int y3)] → k29 y2 y3 v0_thrown = some o → G 0 0 H locs (F0 m 29 ls [])) (k39 : Int32 → Int32 → Int32 → Int32 → Int32 → Option (Int32 × Int32)) (hk39 : ∀ (y2 : Int32) (y3 : Int32) (y4 : Int32) (y5 : Int32) (v0_thrown : Int32) (H : Heap) (locs : List Loc) (ls : Array Slot), va_P (dC, dI) vwCl (wX11_lies h0 h1 h2 h3 kc1 kc2 kc3 V0 v0_thrown v0_size c1 c2 c3) H → va_D A (wX11_lies h0 h1 h2 h3 kc1 kc2 kc3 V0 v0_thrown v0_size c1 c2 c3) → va_S A s.heap H locs → lv_has ls 7 [(0, .ref h0), (2, .int y2), (3, .int y3), (4, .int y4), (5, .int y5)] → k39 y2 y3 y4 y5 v0_thrown = some o → G 0 0 H locs (F0 m 39 ls [])) (k50 : Int32 → Int32 → Int32 → Int32 → Int32 → Int32 → Option (Int32 × Int32)) (hk50 : ∀ (y2 : Int32) (y3 : Int32) (y4 : Int32) (y5 : Int32) (y6 : Int32) (v0_thrown : Int32) (H : Heap) (locs : List Loc) (ls : Array Slot), va_P (dC, dI) vwCl (wX11_lies h0 h1 h2 h3 kc1 kc2 kc3 V0 v0_thrown v0_size c1 c2 c3) H → va_D A (wX11_lies h0 h1 h2 h3 kc1 kc2 kc3 V0 v0_thrown v0_size c1 c2 c3) → va_S A s.heap H locs → lv_has ls 7 [(0, .ref h0), (2, .int y2), (3, .int y3), (4, .int y4), (5, .int y5), (6, .int y6)] → k50 y2 y3 y4 y5 y6 v0_thrown = some o → G 0 0 H locs (F0 m 50 ls [])), ∀ (y2 : Int32) (y3 : Int32) (y5 : Int32) (y6 : Int32) (z0 : Int32) (z1 : Int32) (v0_thrown : Int32) (H : Heap) (locs : List Loc) (ls : Array Slot), va_P (dC, dI) vwCl (wX11_lies h0 h1 h2 h3 kc1 kc2 kc3 V0 v0_thrown v0_size c1 c2 c3) H → va_D A (wX11_lies h0 h1 h2 h3 kc1 kc2 kc3 V0 v0_thrown v0_size c1 c2 c3) → va_S A s.heap H locs → lv_has ls 7 [(0, .ref h0), (2, .int y2), (3, .int y3), (5, .int y5), (6, .int y6)] → fX11_lies_p104 v0_size c1 c2 c3 k29 k39 k50 y2 y3 y5 y6 z0 z1 v0_thrown = some o → G 0 0 H locs (F0 m 104 ls [.int z0, .int z1]) := by
    intro k29 hk29 k39 hk39 k50 hk50 y2 y3 y5 y6 z0 z1 v0_thrown H locs ls hP hD hS hl hf
    refine (hG _ _ _ _ _).mpr ?_
    unfold fX11_lies_p104 at hf
    refine lv_ior hx hb dX11_lies_104 ?_
    refine lv_topi (fun x1 e1 => ?_)
    replace hf := nm_at hf e1
    refine lv_istore (lv' := [(4, .int x1), (0, .ref h0), (2, .int y2), (3, .int y3), (5, .int y5), (6, .int y6)]) hx hb dX11_lies_105 hl (by decide) rfl (fun ls hl => ?_)
    obtain ⟨x2, e2⟩ : ∃ y : Int32, y = y6 + 1 := ⟨_, rfl⟩
    replace hf := nm_at hf e2
    refine lv_iinc (v := x2) (lv' := [(6, .int x2), (4, .int x1), (0, .ref h0), (2, .int y2), (3, .int y3), (5, .int y5)]) hx hb dX11_lies_107 hl (k := 5) rfl (by rw [e2]; rfl) (by decide) rfl (fun ls hl => ?_)
    refine lv_goto (tgt := 50) hx hb dX11_lies_110 (by decide) ?_
    exact (hG _ _ _ _ _).mp (hk50 y2 y3 x1 y5 x2 v0_thrown H locs ls (hP.sub [0, 1, 2, 3] rfl) (hD.sub [0, 1, 2, 3] (by decide) rfl) hS (lv_sub hl [2, 3, 4, 1, 5, 0] rfl) hf)
  have J103 : ∀ (k29 : Int32 → Int32 → Int32 → Option (Int32 × Int32)) (hk29 : ∀ (y2 : Int32) (y3 : Int32) (v0_thrown : Int32) (H : Heap) (locs : List Loc) (ls : Array Slot), va_P (dC, dI) vwCl (wX11_lies h0 h1 h2 h3 kc1 kc2 kc3 V0 v0_thrown v0_size c1 c2 c3) H → va_D A (wX11_lies h0 h1 h2 h3 kc1 kc2 kc3 V0 v0_thrown v0_size c1 c2 c3) → va_S A s.heap H locs → lv_has ls 7 [(0, .ref h0), (2, .int y2), (3, .int y3)] → k29 y2 y3 v0_thrown = some o → G 0 0 H locs (F0 m 29 ls [])) (k39 : Int32 → Int32 → Int32 → Int32 → Int32 → Option (Int32 × Int32)) (hk39 : ∀ (y2 : Int32) (y3 : Int32) (y4 : Int32) (y5 : Int32) (v0_thrown : Int32) (H : Heap) (locs : List Loc) (ls : Array Slot), va_P (dC, dI) vwCl (wX11_lies h0 h1 h2 h3 kc1 kc2 kc3 V0 v0_thrown v0_size c1 c2 c3) H → va_D A (wX11_lies h0 h1 h2 h3 kc1 kc2 kc3 V0 v0_thrown v0_size c1 c2 c3) → va_S A s.heap H locs → lv_has ls 7 [(0, .ref h0), (2, .int y2), (3, .int y3), (4, .int y4), (5, .int y5)] → k39 y2 y3 y4 y5 v0_thrown = some o → G 0 0 H locs (F0 m 39 ls [])) (k50 : Int32 → Int32 → Int32 → Int32 → Int32 → Int32 → Option (Int32 × Int32)) (hk50 : ∀ (y2 : Int32) (y3 : Int32) (y4 : Int32) (y5 : Int32) (y6 : Int32) (v0_thrown : Int32) (H : Heap) (locs : List Loc) (ls : Array Slot), va_P (dC, dI) vwCl (wX11_lies h0 h1 h2 h3 kc1 kc2 kc3 V0 v0_thrown v0_size c1 c2 c3) H → va_D A (wX11_lies h0 h1 h2 h3 kc1 kc2 kc3 V0 v0_thrown v0_size c1 c2 c3) → va_S A s.heap H locs → lv_has ls 7 [(0, .ref h0), (2, .int y2), (3, .int y3), (4, .int y4), (5, .int y5), (6, .int y6)] → k50 y2 y3 y4 y5 y6 v0_thrown = some o → G 0 0 H locs (F0 m 50 ls [])), ∀ (y2 : Int32) (y3 : Int32) (y5 : Int32) (y6 : Int32) (z0 : Int32) (v0_thrown : Int32) (H : Heap) (locs : List Loc) (ls : Array Slot), va_P (dC, dI) vwCl (wX11_lies h0 h1 h2 h3 kc1 kc2 kc3 V0 v0_thrown v0_size c1 c2 c3) H → va_D A (wX11_lies h0 h1 h2 h3 kc1 kc2 kc3 V0 v0_thrown v0_size c1 c2 c3) → va_S A s.heap H locs → lv_has ls 7 [(0, .ref h0), (2, .int y2), (3, .int y3), (5, .int y5), (6, .int y6)] → fX11_lies_p103 v0_size c1 c2 c3 k29 k39 k50 y2 y3 y5 y6 z0 v0_thrown = some o → G 0 0 H locs (F0 m 103 ls [.int z0]) := by
    intro k29 hk29 k39 hk39 k50 hk50 y2 y3 y5 y6 z0 v0_thrown H locs ls hP hD hS hl hf
    refine (hG _ _ _ _ _).mpr ?_
    unfold fX11_lies_p103 at hf
    refine lv_iconst (v := 0) hx hb dX11_lies_103 (by decide +kernel) ?_
    exact (hG _ _ _ _ _).mp (J104 k29 hk29 k39 hk39 k50 hk50 y2 y3 y5 y6 0 z0 v0_thrown H locs ls (hP.sub [0, 1, 2, 3] rfl) (hD.sub [0, 1, 2, 3] (by decide) rfl) hS (lv_sub hl [0, 1, 2, 3, 4] rfl) hf)
  have B50 : ∀ (k29 : Int32 → Int32 → Int32 → Option (Int32 × Int32)) (hk29 : ∀ (y2 : Int32) (y3 : Int32) (v0_thrown : Int32) (H : Heap) (locs : List Loc) (ls : Array Slot), va_P (dC, dI) vwCl (wX11_lies h0 h1 h2 h3 kc1 kc2 kc3 V0 v0_thrown v0_size c1 c2 c3) H → va_D A (wX11_lies h0 h1 h2 h3 kc1 kc2 kc3 V0 v0_thrown v0_size c1 c2 c3) → va_S A s.heap H locs → lv_has ls 7 [(0, .ref h0), (2, .int y2), (3, .int y3)] → k29 y2 y3 v0_thrown = some o → G 0 0 H locs (F0 m 29 ls [])) (k39 : Int32 → Int32 → Int32 → Int32 → Int32 → Option (Int32 × Int32)) (hk39 : ∀ (y2 : Int32) (y3 : Int32) (y4 : Int32) (y5 : Int32) (v0_thrown : Int32) (H : Heap) (locs : List Loc) (ls : Array Slot), va_P (dC, dI) vwCl (wX11_lies h0 h1 h2 h3 kc1 kc2 kc3 V0 v0_thrown v0_size c1 c2 c3) H → va_D A (wX11_lies h0 h1 h2 h3 kc1 kc2 kc3 V0 v0_thrown v0_size c1 c2 c3) → va_S A s.heap H locs → lv_has ls 7 [(0, .ref h0), (2, .int y2), (3, .int y3), (4, .int y4), (5, .int y5)] → k39 y2 y3 y4 y5 v0_thrown = some o → G 0 0 H locs (F0 m 39 ls [])) (k50 : Int32 → Int32 → Int32 → Int32 → Int32 → Int32 → Option (Int32 × Int32)) (hk50 : ∀ (y2 : Int32) (y3 : Int32) (y4 : Int32) (y5 : Int32) (y6 : Int32) (v0_thrown : Int32) (H : Heap) (locs : List Loc) (ls : Array Slot), va_P (dC, dI) vwCl (wX11_lies h0 h1 h2 h3 kc1 kc2 kc3 V0 v0_thrown v0_size c1 c2 c3) H → va_D A (wX11_lies h0 h1 h2 h3 kc1 kc2 kc3 V0 v0_thrown v0_size c1 c2 c3) → va_S A s.heap H locs → lv_has ls 7 [(0, .ref h0), (2, .int y2), (3, .int y3), (4, .int y4), (5, .int y5), (6, .int y6)] → k50 y2 y3 y4 y5 y6 v0_thrown = some o → G 0 0 H locs (F0 m 50 ls [])), ∀ (y2 : Int32) (y3 : Int32) (y4 : Int32) (y5 : Int32) (y6 : Int32) (v0_thrown : Int32) (H : Heap) (locs : List Loc) (ls : Array Slot), va_P (dC, dI) vwCl (wX11_lies h0 h1 h2 h3 kc1 kc2 kc3 V0 v0_thrown v0_size c1 c2 c3) H → va_D A (wX11_lies h0 h1 h2 h3 kc1 kc2 kc3 V0 v0_thrown v0_size c1 c2 c3) → va_S A s.heap H locs → lv_has ls 7 [(0, .ref h0), (2, .int y2), (3, .int y3), (4, .int y4), (5, .int y5), (6, .int y6)] → fX11_lies_b50 v0_size c1 c2 c3 k29 k39 k50 y2 y3 y4 y5 y6 v0_thrown = some o → G 0 0 H locs (F0 m 50 ls []) := by
    intro k29 hk29 k39 hk39 k50 hk50 y2 y3 y4 y5 y6 v0_thrown H locs ls hP hD hS hl hf
    refine (hG _ _ _ _ _).mpr ?_
    unfold fX11_lies_b50 at hf
    refine lv_iload hx hb dX11_lies_50 (lv_at hl 5 rfl) ?_
    refine lv_bipush (v := 16) hx hb dX11_lies_52 (by decide +kernel) ?_
    refine lv_icmp_ge (tgt := 113) hx hb dX11_lies_54 (by decide) (fun cq3 => ?_) (fun cq3 => ?_)
    · replace hf := if_at hf cq3
      obtain ⟨x4, e4⟩ : ∃ y : Int32, y = y5 + 1 := ⟨_, rfl⟩
      replace hf := nm_at hf e4
      refine lv_iinc (v := x4) (lv' := [(5, .int x4), (0, .ref h0), (2, .int y2), (3, .int y3), (4, .int y4), (6, .int y6)]) hx hb dX11_lies_113 hl (k := 4) rfl (by rw [e4]; rfl) (by decide) rfl (fun ls hl => ?_)
      refine lv_goto (tgt := 39) hx hb dX11_lies_116 (by decide) ?_
      exact (hG _ _ _ _ _).mp (hk39 y2 y3 y4 x4 v0_thrown H locs ls (hP.sub [0, 1, 2, 3] rfl) (hD.sub [0, 1, 2, 3] (by decide) rfl) hS (lv_sub hl [1, 2, 3, 4, 0] rfl) hf)
    · replace hf := if_no hf cq3
      refine lv_iload hx hb dX11_lies_57 (lv_at hl 3 rfl) ?_
      refine lv_iload_n hx hb dX11_lies_59 rfl (lv_at hl 1 rfl) ?_
      refine lv_iload hx hb dX11_lies_60 (lv_at hl 4 rfl) ?_
      refine lv_ishr hx hb dX11_lies_62 ?_
      refine lv_topi (fun x5 e5 => ?_)
      replace hf := nm_at hf e5
      refine lv_iconst (v := 1) hx hb dX11_lies_63 (by decide +kernel) ?_
      refine lv_iand hx hb dX11_lies_64 ?_
      refine lv_topi (fun x6 e6 => ?_)
      replace hf := nm_at hf e6
      refine lv_iconst (v := 1) hx hb dX11_lies_65 (by decide +kernel) ?_
      refine lv_icmp_ne (tgt := 103) hx hb dX11_lies_66 (by decide) (fun cq7 => ?_) (fun cq7 => ?_)
      · replace hf := if_no hf cq7
        exact (hG _ _ _ _ _).mp (J103 k29 hk29 k39 hk39 k50 hk50 y2 y3 y5 y6 y4 v0_thrown H locs ls (hP.sub [0, 1, 2, 3] rfl) (hD.sub [0, 1, 2, 3] (by decide) rfl) hS (lv_sub hl [0, 1, 2, 4, 5] rfl) hf)
      · replace hf := if_at hf cq7
        refine lv_aload_n hx hb dX11_lies_69 rfl (lv_at hl 0 rfl) ?_
        refine va_get (D := (dC, dI)) (ci := 11) (v := .ref h2) (C := RX11) (T := TX11) (N := 71) hx hb hts inlX11 hown hK hP 0 rfl rfl 4 (by decide) w0_ (fun _ h9 => h9) rfl dX11_lies_70 ?_
        refine lv_sipush (v := 192) hx hb dX11_lies_73 (by decide +kernel) ?_
        refine lv_iload hx hb dX11_lies_76 (lv_at hl 4 rfl) ?_
        refine lv_imul hx hb dX11_lies_78 ?_
        refine lv_topi (fun x8 e8 => ?_)
        replace hf := nm_at hf e8
        refine lv_bipush (v := 16) hx hb dX11_lies_79 (by decide +kernel) ?_
        refine lv_aload_n hx hb dX11_lies_81 rfl (lv_at hl 0 rfl) ?_
        refine va_get (D := (dC, dI)) (ci := 11) (v := .ref h1) (C := RX11) (T := TX11) (N := 71) hx hb hts inlX11 hown hK hP 0 rfl rfl 7 (by decide) w1_ (fun _ h9 => h9) rfl dX11_lies_82 ?_
        refine lv_iload_n hx hb dX11_lies_85 rfl (lv_at hl 2 rfl) ?_
        have b9 := bd_in hf
        replace hf := bd_k hf
        refine va_iald hx hb hK hP 1 0 rfl rfl b9 dX11_lies_86 ?_
        refine lv_topi (fun x10 e10 => ?_)
        replace hf := nm_at hf e10
        refine lv_imul hx hb dX11_lies_87 ?_
        refine lv_topi (fun x11 e11 => ?_)
        replace hf := nm_at hf e11
        refine lv_iadd hx hb dX11_lies_88 ?_
        refine lv_topi (fun x12 e12 => ?_)
        replace hf := nm_at hf e12
        refine lv_iload hx hb dX11_lies_89 (lv_at hl 5 rfl) ?_
        refine lv_iadd hx hb dX11_lies_91 ?_
        refine lv_topi (fun x13 e13 => ?_)
        replace hf := nm_at hf e13
        have b14 := bd_in hf
        replace hf := bd_k hf
        refine va_zald hx hb hK hP 2 1 rfl rfl b14 dX11_lies_92 ?_
        refine lv_topi (fun x15 e15 => ?_)
        replace hf := nm_at hf e15
        refine lv_if_eq (tgt := 103) hx hb dX11_lies_93 (by decide) (fun cq16 => ?_) (fun cq16 => ?_)
        · replace hf := if_at hf cq16
          exact (hG _ _ _ _ _).mp (J103 k29 hk29 k39 hk39 k50 hk50 y2 y3 y5 y6 y4 v0_thrown H locs ls (hP.sub [0, 1, 2, 3] rfl) (hD.sub [0, 1, 2, 3] (by decide) rfl) hS (lv_sub hl [0, 1, 2, 4, 5] rfl) hf)
        · replace hf := if_no hf cq16
          refine lv_iconst (v := 1) hx hb dX11_lies_96 (by decide +kernel) ?_
          refine lv_iload hx hb dX11_lies_97 (lv_at hl 5 rfl) ?_
          refine lv_ishl hx hb dX11_lies_99 ?_
          refine lv_topi (fun x17 e17 => ?_)
          replace hf := nm_at hf e17
          refine lv_goto (tgt := 104) hx hb dX11_lies_100 (by decide) ?_
          exact (hG _ _ _ _ _).mp (J104 k29 hk29 k39 hk39 k50 hk50 y2 y3 y5 y6 x17 y4 v0_thrown H locs ls (hP.sub [0, 1, 2, 3] rfl) (hD.sub [0, 1, 2, 3] (by decide) rfl) hS (lv_sub hl [0, 1, 2, 4, 5] rfl) hf)
  have L50 : ∀ (k29 : Int32 → Int32 → Int32 → Option (Int32 × Int32)) (hk29 : ∀ (y2 : Int32) (y3 : Int32) (v0_thrown : Int32) (H : Heap) (locs : List Loc) (ls : Array Slot), va_P (dC, dI) vwCl (wX11_lies h0 h1 h2 h3 kc1 kc2 kc3 V0 v0_thrown v0_size c1 c2 c3) H → va_D A (wX11_lies h0 h1 h2 h3 kc1 kc2 kc3 V0 v0_thrown v0_size c1 c2 c3) → va_S A s.heap H locs → lv_has ls 7 [(0, .ref h0), (2, .int y2), (3, .int y3)] → k29 y2 y3 v0_thrown = some o → G 0 0 H locs (F0 m 29 ls [])) (k39 : Int32 → Int32 → Int32 → Int32 → Int32 → Option (Int32 × Int32)) (hk39 : ∀ (y2 : Int32) (y3 : Int32) (y4 : Int32) (y5 : Int32) (v0_thrown : Int32) (H : Heap) (locs : List Loc) (ls : Array Slot), va_P (dC, dI) vwCl (wX11_lies h0 h1 h2 h3 kc1 kc2 kc3 V0 v0_thrown v0_size c1 c2 c3) H → va_D A (wX11_lies h0 h1 h2 h3 kc1 kc2 kc3 V0 v0_thrown v0_size c1 c2 c3) → va_S A s.heap H locs → lv_has ls 7 [(0, .ref h0), (2, .int y2), (3, .int y3), (4, .int y4), (5, .int y5)] → k39 y2 y3 y4 y5 v0_thrown = some o → G 0 0 H locs (F0 m 39 ls [])) (n : Nat), ∀ (y2 : Int32) (y3 : Int32) (y4 : Int32) (y5 : Int32) (y6 : Int32) (v0_thrown : Int32) (H : Heap) (locs : List Loc) (ls : Array Slot), va_P (dC, dI) vwCl (wX11_lies h0 h1 h2 h3 kc1 kc2 kc3 V0 v0_thrown v0_size c1 c2 c3) H → va_D A (wX11_lies h0 h1 h2 h3 kc1 kc2 kc3 V0 v0_thrown v0_size c1 c2 c3) → va_S A s.heap H locs → lv_has ls 7 [(0, .ref h0), (2, .int y2), (3, .int y3), (4, .int y4), (5, .int y5), (6, .int y6)] → fX11_lies_l50 v0_size c1 c2 c3 k29 k39 n y2 y3 y4 y5 y6 v0_thrown = some o → G 0 0 H locs (F0 m 50 ls []) := by
    intro k29 hk29 k39 hk39 n
    induction n with
    | zero => intro y2 y3 y4 y5 y6 v0_thrown H locs ls _ _ _ _ hf; cases hf
    | succ n ih => exact B50 k29 hk29 k39 hk39 _ ih
  have B39 : ∀ (k29 : Int32 → Int32 → Int32 → Option (Int32 × Int32)) (hk29 : ∀ (y2 : Int32) (y3 : Int32) (v0_thrown : Int32) (H : Heap) (locs : List Loc) (ls : Array Slot), va_P (dC, dI) vwCl (wX11_lies h0 h1 h2 h3 kc1 kc2 kc3 V0 v0_thrown v0_size c1 c2 c3) H → va_D A (wX11_lies h0 h1 h2 h3 kc1 kc2 kc3 V0 v0_thrown v0_size c1 c2 c3) → va_S A s.heap H locs → lv_has ls 7 [(0, .ref h0), (2, .int y2), (3, .int y3)] → k29 y2 y3 v0_thrown = some o → G 0 0 H locs (F0 m 29 ls [])) (k39 : Int32 → Int32 → Int32 → Int32 → Int32 → Option (Int32 × Int32)) (hk39 : ∀ (y2 : Int32) (y3 : Int32) (y4 : Int32) (y5 : Int32) (v0_thrown : Int32) (H : Heap) (locs : List Loc) (ls : Array Slot), va_P (dC, dI) vwCl (wX11_lies h0 h1 h2 h3 kc1 kc2 kc3 V0 v0_thrown v0_size c1 c2 c3) H → va_D A (wX11_lies h0 h1 h2 h3 kc1 kc2 kc3 V0 v0_thrown v0_size c1 c2 c3) → va_S A s.heap H locs → lv_has ls 7 [(0, .ref h0), (2, .int y2), (3, .int y3), (4, .int y4), (5, .int y5)] → k39 y2 y3 y4 y5 v0_thrown = some o → G 0 0 H locs (F0 m 39 ls [])), ∀ (y2 : Int32) (y3 : Int32) (y4 : Int32) (y5 : Int32) (v0_thrown : Int32) (H : Heap) (locs : List Loc) (ls : Array Slot), va_P (dC, dI) vwCl (wX11_lies h0 h1 h2 h3 kc1 kc2 kc3 V0 v0_thrown v0_size c1 c2 c3) H → va_D A (wX11_lies h0 h1 h2 h3 kc1 kc2 kc3 V0 v0_thrown v0_size c1 c2 c3) → va_S A s.heap H locs → lv_has ls 7 [(0, .ref h0), (2, .int y2), (3, .int y3), (4, .int y4), (5, .int y5)] → fX11_lies_b39 v0_size c1 c2 c3 k29 k39 y2 y3 y4 y5 v0_thrown = some o → G 0 0 H locs (F0 m 39 ls []) := by
    intro k29 hk29 k39 hk39 y2 y3 y4 y5 v0_thrown H locs ls hP hD hS hl hf
    refine (hG _ _ _ _ _).mpr ?_
    unfold fX11_lies_b39 at hf
    refine lv_iload hx hb dX11_lies_39 (lv_at hl 4 rfl) ?_
    refine lv_bipush (v := 16) hx hb dX11_lies_41 (by decide +kernel) ?_
    refine lv_icmp_ge (tgt := 119) hx hb dX11_lies_43 (by decide) (fun cq18 => ?_) (fun cq18 => ?_)
    · replace hf := if_at hf cq18
      refine lv_iload hx hb dX11_lies_119 (lv_at hl 3 rfl) ?_
      refine lv_istore_n (lv' := [(2, .int y4), (0, .ref h0), (3, .int y3), (4, .int y4), (5, .int y5)]) hx hb dX11_lies_121 rfl hl (by decide) rfl (fun ls hl => ?_)
      obtain ⟨x19, e19⟩ : ∃ y : Int32, y = y3 + (-1) := ⟨_, rfl⟩
      replace hf := nm_at hf e19
      refine lv_iinc (v := x19) (lv' := [(3, .int x19), (2, .int y4), (0, .ref h0), (4, .int y4), (5, .int y5)]) hx hb dX11_lies_122 hl (k := 2) rfl (by rw [e19]; rfl) (by decide) rfl (fun ls hl => ?_)
      refine lv_goto (tgt := 29) hx hb dX11_lies_125 (by decide) ?_
      exact (hG _ _ _ _ _).mp (hk29 y4 x19 v0_thrown H locs ls (hP.sub [0, 1, 2, 3] rfl) (hD.sub [0, 1, 2, 3] (by decide) rfl) hS (lv_sub hl [2, 1, 0] rfl) hf)
    · replace hf := if_no hf cq18
      refine lv_bipush (v := 8) hx hb dX11_lies_46 (by decide +kernel) ?_
      refine lv_istore (lv' := [(6, .int 8), (0, .ref h0), (2, .int y2), (3, .int y3), (4, .int y4), (5, .int y5)]) hx hb dX11_lies_48 hl (by decide) rfl (fun ls hl => ?_)
      exact (hG _ _ _ _ _).mp (L50 k29 hk29 k39 hk39 FU y2 y3 y4 y5 8 v0_thrown H locs ls (hP.sub [0, 1, 2, 3] rfl) (hD.sub [0, 1, 2, 3] (by decide) rfl) hS (lv_sub hl [1, 2, 3, 4, 5, 0] rfl) hf)
  have L39 : ∀ (k29 : Int32 → Int32 → Int32 → Option (Int32 × Int32)) (hk29 : ∀ (y2 : Int32) (y3 : Int32) (v0_thrown : Int32) (H : Heap) (locs : List Loc) (ls : Array Slot), va_P (dC, dI) vwCl (wX11_lies h0 h1 h2 h3 kc1 kc2 kc3 V0 v0_thrown v0_size c1 c2 c3) H → va_D A (wX11_lies h0 h1 h2 h3 kc1 kc2 kc3 V0 v0_thrown v0_size c1 c2 c3) → va_S A s.heap H locs → lv_has ls 7 [(0, .ref h0), (2, .int y2), (3, .int y3)] → k29 y2 y3 v0_thrown = some o → G 0 0 H locs (F0 m 29 ls [])) (n : Nat), ∀ (y2 : Int32) (y3 : Int32) (y4 : Int32) (y5 : Int32) (v0_thrown : Int32) (H : Heap) (locs : List Loc) (ls : Array Slot), va_P (dC, dI) vwCl (wX11_lies h0 h1 h2 h3 kc1 kc2 kc3 V0 v0_thrown v0_size c1 c2 c3) H → va_D A (wX11_lies h0 h1 h2 h3 kc1 kc2 kc3 V0 v0_thrown v0_size c1 c2 c3) → va_S A s.heap H locs → lv_has ls 7 [(0, .ref h0), (2, .int y2), (3, .int y3), (4, .int y4), (5, .int y5)] → fX11_lies_l39 v0_size c1 c2 c3 k29 n y2 y3 y4 y5 v0_thrown = some o → G 0 0 H locs (F0 m 39 ls []) := by
    intro k29 hk29 n
    induction n with
    | zero => intro y2 y3 y4 y5 v0_thrown H locs ls _ _ _ _ hf; cases hf
    | succ n ih => exact B39 k29 hk29 _ ih
  have B29 : ∀ (k29 : Int32 → Int32 → Int32 → Option (Int32 × Int32)) (hk29 : ∀ (y2 : Int32) (y3 : Int32) (v0_thrown : Int32) (H : Heap) (locs : List Loc) (ls : Array Slot), va_P (dC, dI) vwCl (wX11_lies h0 h1 h2 h3 kc1 kc2 kc3 V0 v0_thrown v0_size c1 c2 c3) H → va_D A (wX11_lies h0 h1 h2 h3 kc1 kc2 kc3 V0 v0_thrown v0_size c1 c2 c3) → va_S A s.heap H locs → lv_has ls 7 [(0, .ref h0), (2, .int y2), (3, .int y3)] → k29 y2 y3 v0_thrown = some o → G 0 0 H locs (F0 m 29 ls [])), ∀ (y2 : Int32) (y3 : Int32) (v0_thrown : Int32) (H : Heap) (locs : List Loc) (ls : Array Slot), va_P (dC, dI) vwCl (wX11_lies h0 h1 h2 h3 kc1 kc2 kc3 V0 v0_thrown v0_size c1 c2 c3) H → va_D A (wX11_lies h0 h1 h2 h3 kc1 kc2 kc3 V0 v0_thrown v0_size c1 c2 c3) → va_S A s.heap H locs → lv_has ls 7 [(0, .ref h0), (2, .int y2), (3, .int y3)] → fX11_lies_b29 v0_size c1 c2 c3  k29 y2 y3 v0_thrown = some o → G 0 0 H locs (F0 m 29 ls []) := by
    intro  k29 hk29 y2 y3 v0_thrown H locs ls hP hD hS hl hf
    refine (hG _ _ _ _ _).mpr ?_
    unfold fX11_lies_b29 at hf
    refine lv_iload_n hx hb dX11_lies_29 rfl (lv_at hl 2 rfl) ?_
    refine lv_if_lt (tgt := 128) hx hb dX11_lies_30 (by decide) (fun cq20 => ?_) (fun cq20 => ?_)
    · replace hf := if_at hf cq20
      refine lv_aload_n hx hb dX11_lies_128 rfl (lv_at hl 0 rfl) ?_
      refine lv_iload_n hx hb dX11_lies_129 rfl (lv_at hl 1 rfl) ?_
      obtain ⟨o21, e21, hf⟩ := ob_some hf
      refine kVi (As := [.int y2]) (rest := []) ⟨hx, hb, hml, hown, hts⟩ (mX11_meetsEnd l dC dI h0 h3 kc3 H.size base y2 c3 (fun k => match k with | 0 => .int v0_thrown | 4 => .ref h2 | 6 => .int v0_size | 7 => .ref h1 | k => V0 k) o21 e21) (cwV 1 hts (gTV q245 q246 q247 q5 q248) rfl rfl rfl (by decide +kernel) ⟨Nat.le_of_ble_eq_true rfl, Nat.le_of_ble_eq_true rfl⟩) hK hP hD hS hA hE hAB [0, 3] [1, 2] [2] (wr := [(h1, .inl (kc1, 30, .inl c1)), (h2, .inl (kc2, 3072, .inl c2))]) rfl rfl (by decide) (by decide) (by decide) rfl (ci := 11) (q0 := 0) rfl rfl rfl rfl hl.1 rfl (Nat.le_of_ble_eq_true rfl) dX11_lies_130 ⟨Nat.zero_le _, Nat.zero_le _⟩ (fun r21 u21 H locs hw21 hP hD hS => ?_)
      obtain ⟨hw211, hw212⟩ := hw21
      subst hw211 hw212
      have hP : va_P (dC, dI) vwCl (wX11_lies h0 h1 h2 h3 kc1 kc2 kc3 V0 v0_thrown v0_size c1 c2 c3) H := hP.sub [2, 0, 1, 3] rfl
      have hD : va_D A (wX11_lies h0 h1 h2 h3 kc1 kc2 kc3 V0 v0_thrown v0_size c1 c2 c3) := hD.sub [2, 0, 1, 3] (by decide) rfl
      refine lv_if_eq (tgt := 140) hx hb dX11_lies_133 (by decide) (fun cq22 => ?_) (fun cq22 => ?_)
      · replace hf := if_at hf cq22
        refine lv_iconst (v := 0) hx hb dX11_lies_140 (by decide +kernel) ?_
        exact (hG _ _ _ _ _).mp (J141 0 v0_thrown H locs ls (hP.sub [0, 1, 2, 3] rfl) (hD.sub [0, 1, 2, 3] (by decide) rfl) hS (lv_sub hl [0] rfl) hf)
      · replace hf := if_no hf cq22
        refine lv_iconst (v := 1) hx hb dX11_lies_136 (by decide +kernel) ?_
        refine lv_goto (tgt := 141) hx hb dX11_lies_137 (by decide) ?_
        exact (hG _ _ _ _ _).mp (J141 1 v0_thrown H locs ls (hP.sub [0, 1, 2, 3] rfl) (hD.sub [0, 1, 2, 3] (by decide) rfl) hS (lv_sub hl [0] rfl) hf)
    · replace hf := if_no hf cq20
      refine lv_iconst (v := 0) hx hb dX11_lies_33 (by decide +kernel) ?_
      refine lv_istore (lv' := [(4, .int 0), (0, .ref h0), (2, .int y2), (3, .int y3)]) hx hb dX11_lies_34 hl (by decide) rfl (fun ls hl => ?_)
      refine lv_iconst (v := 0) hx hb dX11_lies_36 (by decide +kernel) ?_
      refine lv_istore (lv' := [(5, .int 0), (4, .int 0), (0, .ref h0), (2, .int y2), (3, .int y3)]) hx hb dX11_lies_37 hl (by decide) rfl (fun ls hl => ?_)
      exact (hG _ _ _ _ _).mp (L39 k29 hk29 FU y2 y3 0 0 v0_thrown H locs ls (hP.sub [0, 1, 2, 3] rfl) (hD.sub [0, 1, 2, 3] (by decide) rfl) hS (lv_sub hl [2, 3, 4, 1, 0] rfl) hf)
  have L29 : ∀ (n : Nat), ∀ (y2 : Int32) (y3 : Int32) (v0_thrown : Int32) (H : Heap) (locs : List Loc) (ls : Array Slot), va_P (dC, dI) vwCl (wX11_lies h0 h1 h2 h3 kc1 kc2 kc3 V0 v0_thrown v0_size c1 c2 c3) H → va_D A (wX11_lies h0 h1 h2 h3 kc1 kc2 kc3 V0 v0_thrown v0_size c1 c2 c3) → va_S A s.heap H locs → lv_has ls 7 [(0, .ref h0), (2, .int y2), (3, .int y3)] → fX11_lies_l29 v0_size c1 c2 c3  n y2 y3 v0_thrown = some o → G 0 0 H locs (F0 m 29 ls []) := by
    intro  n
    induction n with
    | zero => intro y2 y3 v0_thrown H locs ls _ _ _ _ hf; cases hf
    | succ n ih => exact B29  _ ih
  refine (hG _ _ _ _ _).mpr ?_
  obtain ⟨H, hH⟩ : ∃ H, H = s.heap := ⟨_, rfl⟩
  have hS : va_S A s.heap H [] := by rw [hH]; exact hS
  rw [← hH] at hP ⊢
  generalize ([] : List Loc) = locs at hS ⊢
  unfold fX11_lies at hf
  refine lv_aload_n hx hb dX11_lies_0 rfl (lv_at hl 0 rfl) ?_
  refine lv_iconst (v := 0) hx hb dX11_lies_1 (by decide +kernel) ?_
  refine va_put (D := (dC, dI)) (ci := 11) (v := .int 0) (ty := .int) (C := RX11) (T := TX11) (N := 71) hx hb hts inlX11 tyX11 tyX11_ok nmX11 hown hK hP hD hS 0 rfl rfl 0 (by decide) w2_ (fun _ h9 => h9) rfl (by decide +kernel) rfl rfl (Nat.le_of_ble_eq_true rfl) dX11_lies_2 (fun H locs hP hD hS => ?_)
  have hP : va_P (dC, dI) vwCl (wX11_lies h0 h1 h2 h3 kc1 kc2 kc3 V0 0 v0_size c1 c2 c3) H := hP
  have hD : va_D A (wX11_lies h0 h1 h2 h3 kc1 kc2 kc3 V0 0 v0_size c1 c2 c3) := hD
  refine lv_iload_n hx hb dX11_lies_5 rfl (lv_at hl 1 rfl) ?_
  refine lv_iconst (v := 0) hx hb dX11_lies_6 (by decide +kernel) ?_
  refine lv_bipush (v := 7) hx hb dX11_lies_7 (by decide +kernel) ?_
  obtain ⟨o23, e23, hf⟩ := ob_some hf
  refine kSi (As := [.int a0, .int 0, .int 7]) (rest := []) ⟨hx, hb, hml, hown, hts⟩ (mX11_in l dC dI H.size base a0 0 7 o23 e23) (va_cwS 3 hts (gTS q148 q149 q5 q150) rfl rfl rfl (by decide +kernel) ⟨Nat.le_of_ble_eq_true rfl, Nat.le_of_ble_eq_true rfl⟩) hK hP hD hS hA hE hAB [] [0, 1, 2, 3] [] (wr := (wX11_lies h0 h1 h2 h3 kc1 kc2 kc3 V0 0 v0_size c1 c2 c3)) rfl rfl (by decide) (by decide) (by decide) rfl rfl hl.1 rfl (Nat.le_of_ble_eq_true rfl) dX11_lies_9 ⟨Nat.zero_le _, Nat.zero_le _⟩ (fun r23 u23 H locs hw23 hP hD hS => ?_)
  obtain ⟨hw231, hw232⟩ := hw23
  subst hw231 hw232
  have hP : va_P (dC, dI) vwCl (wX11_lies h0 h1 h2 h3 kc1 kc2 kc3 V0 0 v0_size c1 c2 c3) H := hP.sub [0, 1, 2, 3] rfl
  have hD : va_D A (wX11_lies h0 h1 h2 h3 kc1 kc2 kc3 V0 0 v0_size c1 c2 c3) := hD.sub [0, 1, 2, 3] (by decide) rfl
  refine lv_if_ne (tgt := 18) hx hb dX11_lies_12 (by decide) (fun cq24 => ?_) (fun cq24 => ?_)
  · replace hf := if_no hf cq24
    refine lv_iconst (v := 1) hx hb dX11_lies_18 (by decide +kernel) ?_
    refine lv_iload_n hx hb dX11_lies_19 rfl (lv_at hl 1 rfl) ?_
    refine lv_ishl hx hb dX11_lies_20 ?_
    refine lv_topi (fun x25 e25 => ?_)
    replace hf := nm_at hf e25
    refine lv_istore_n (lv' := [(2, .int x25), (0, .ref h0), (1, .int a0)]) hx hb dX11_lies_21 rfl hl (by decide) rfl (fun ls hl => ?_)
    refine lv_aload_n hx hb dX11_lies_22 rfl (lv_at hl 1 rfl) ?_
    refine va_get (D := (dC, dI)) (ci := 11) (v := .int v0_size) (C := RX11) (T := TX11) (N := 71) hx hb hts inlX11 hown hK hP 0 rfl rfl 6 (by decide) w3_ (fun _ h9 => h9) rfl dX11_lies_23 ?_
    refine lv_iconst (v := 1) hx hb dX11_lies_26 (by decide +kernel) ?_
    refine lv_isub hx hb dX11_lies_27 ?_
    refine lv_topi (fun x26 e26 => ?_)
    replace hf := nm_at hf e26
    refine lv_istore_n (lv' := [(3, .int x26), (2, .int x25), (0, .ref h0), (1, .int a0)]) hx hb dX11_lies_28 rfl hl (by decide) rfl (fun ls hl => ?_)
    exact (hG _ _ _ _ _).mp (L29 FU x25 x26 0 H locs ls (hP.sub [0, 1, 2, 3] rfl) (hD.sub [0, 1, 2, 3] (by decide) rfl) hS (lv_sub hl [2, 1, 0] rfl) hf)
  · replace hf := if_at hf cq24
    refine lv_bipush (v := (-2)) hx hb dX11_lies_15 (by decide +kernel) ?_
    have hf1 := Option.some.inj hf
    subst hf1
    have hP9 := hP.sub (ws' := (wX11_lies h0 h1 h2 h3 kc1 kc2 kc3 V0 0 v0_size c1 c2 c3)) [0, 1, 2, 3] rfl
    have hD9 := hD.sub (ws' := (wX11_lies h0 h1 h2 h3 kc1 kc2 kc3 V0 0 v0_size c1 c2 c3)) [0, 1, 2, 3] (by decide) rfl
    exact W.iret (v := (-2)) hx hb hr (fun t ht hW => ⟨⟨(-2), 0, rfl, ⟨rfl, rfl⟩, by rw [ht]; exact hP9, va_K.moved hW.alike hK, hD9⟩, hS.F ht⟩) hS.2.2 dX11_lies_17
abbrev wX11_take (h0 h1 : Nat) (kc1 : ClassId) (V0 : Nat → Value) (v0_textSize : Int32) (v0_from : Int32) (v0_to : Int32) (v0_token : Int32) (v0_name : Int64) (v0_wrong : Int32) (v0_wrongAt : Int32) (c1 : Nat → Int32) : va_W := [(h0, .inr (11, [V0 0, V0 1, V0 2, V0 3, V0 4, V0 5, V0 6, V0 7, V0 8, V0 9, V0 10, V0 11, V0 12, V0 13, V0 14, V0 15, V0 16, V0 17, V0 18, .int v0_textSize, .ref h1, .int v0_from, .int v0_to, .int v0_token, .long v0_name, .int v0_wrong, .int v0_wrongAt, V0 27, V0 28, V0 29, V0 30, V0 31, V0 32, V0 33, V0 34, V0 35, V0 36, V0 37, V0 38, V0 39, V0 40, V0 41, V0 42, V0 43, V0 44, V0 45, V0 46, V0 47, V0 48, V0 49, V0 50, V0 51, V0 52, V0 53, V0 54, V0 55, V0 56, V0 57, V0 58, V0 59, V0 60, V0 61, V0 62, V0 63, V0 64, V0 65, V0 66, V0 67, V0 68, V0 69, V0 70])), (h1, .inl (kc1, 600, .inl c1))]
set_option maxHeartbeats 4000000 in
set_option maxRecDepth 100000 in
theorem mX11_take (l : Launch) (dC : Nat → ClassId) (dI : Nat → Nat → Nat) (h0 h1 : Nat) (kc1 : ClassId) (sz : Nat) (base : Nat × Nat × Nat) (a0 : Int32) (v0_textSize : Int32) (v0_from : Int32) (v0_to : Int32) (v0_token : Int32) (v0_name : Int64) (v0_wrong : Int32) (v0_wrongAt : Int32) (c1 : Nat → Int32) (V0 : Nat → Value) (o : Int32 × Int32 × Int32 × Int32 × Int64 × Int32 × Int32) (hf : fX11_take a0 v0_textSize v0_from v0_to v0_token v0_name v0_wrong v0_wrongAt c1 = some o) : Met l yX11_take (.code yX11_take cX11_take 3 (some .boolean) :: wsL_law) ({ frames := 3, cells := 0, slots := 0, locals := 63 }) (cPre (dC, dI) vwCl [.ref h0, .int a0] sz base (wX11_take h0 h1 kc1 V0 v0_textSize v0_from v0_to v0_token v0_name v0_wrong v0_wrongAt c1) [(kc1, .int)]) (va_Qi (fun r u => r = o.1 ∧ u = o.2) (fun (u : Int32 × Int32 × Int32 × Int64 × Int32 × Int32) t => cPost (dC, dI) vwCl (va_A (wX11_take h0 h1 kc1 V0 v0_textSize v0_from v0_to v0_token v0_name v0_wrong v0_wrongAt c1) sz) (wX11_take h0 h1 kc1 V0 v0_textSize u.1 u.2.1 u.2.2.1 u.2.2.2.1 u.2.2.2.2.1 u.2.2.2.2.2 c1) [(kc1, .int)] t) (va_A (wX11_take h0 h1 kc1 V0 v0_textSize v0_from v0_to v0_token v0_name v0_wrong v0_wrongAt c1) sz)) 0 0 (va_A (wX11_take h0 h1 kc1 V0 v0_textSize v0_from v0_to v0_token v0_name v0_wrong v0_wrongAt c1) sz) := by
  refine Met.ofW (cc := cX11_take) (maxL := 3) (ret := (some .boolean)) (by decide) rfl ?_
  intro p e s m args below meth c s₁ B hml hv
  obtain ⟨rfl, hsz, hP, hK, hD0, hE⟩ := hv
  have hx := B.exec
  have hb := B.bytes
  have hr := B.returns
  have hts : ∀ w ∈ wsL_law, _ := fun w h => atoms_spec (ws := .code yX11_take cX11_take 3 (some .boolean) :: wsL_law) B.pre w (List.mem_cons_of_mem _ h)
  have hown : s.vm.findClass RX11 = some m.cls := findClass_of_methodNamed B.named
  have hlocks := B.notSynchronized
  skip
  subst hsz
  have hD := hD0.self (sz := s.heap.size)
  generalize hAe : va_A (wX11_take h0 h1 kc1 V0 v0_textSize v0_from v0_to v0_token v0_name v0_wrong v0_wrongAt c1) s.heap.size = A at hD ⊢
  have hA : ∀ q : Nat, s.heap.size ≤ q → A q := fun q h => by rw [← hAe]; exact Or.inr h
  have hAB : ∀ q : Nat, A q → base.1 ≤ q := fun q h => by rw [← hAe] at h; exact h.elim (fun ⟨k, e, hk⟩ => hD0.2 k _ hk) (fun hk => Nat.le_trans hE.1 hk)
  have hS : va_S A s.heap s.heap [] := va_S.rf
  have hl := lv_entry ([.ref h0, .int a0]) (n := 3) (Nat.le_of_ble_eq_true rfl)
  rw [lg_entry_eq]
  generalize (lg_sl ([.ref h0, .int a0]) ++ List.replicate (3 - (lg_sl ([.ref h0, .int a0])).length) Slot.unset).toArray = ls at hl ⊢
  have hl : lv_has ls 3 [(0, .ref h0), (1, .int a0)] := hl
  have hP : va_P (dC, dI) vwCl (wX11_take h0 h1 kc1 V0 v0_textSize v0_from v0_to v0_token v0_name v0_wrong v0_wrongAt c1) s.heap := hP
  refine gl_intro (fun G hG => ?_)
  have J18 : ∀ (y2 : Int32) (v0_from : Int32) (v0_to : Int32) (v0_token : Int32) (v0_name : Int64) (v0_wrong : Int32) (v0_wrongAt : Int32) (H : Heap) (locs : List Loc) (ls : Array Slot), va_P (dC, dI) vwCl (wX11_take h0 h1 kc1 V0 v0_textSize v0_from v0_to v0_token v0_name v0_wrong v0_wrongAt c1) H → va_D A (wX11_take h0 h1 kc1 V0 v0_textSize v0_from v0_to v0_token v0_name v0_wrong v0_wrongAt c1) → va_S A s.heap H locs → lv_has ls 3 [(0, .ref h0), (2, .int y2)] → fX11_take_p18 v0_textSize c1  y2 v0_from v0_to v0_token v0_name v0_wrong v0_wrongAt = some o → G 0 0 H locs (F0 m 18 ls []) := by
    intro  y2 v0_from v0_to v0_token v0_name v0_wrong v0_wrongAt H locs ls hP hD hS hl hf
    refine (hG _ _ _ _ _).mpr ?_
    unfold fX11_take_p18 at hf
    refine lv_iload_n hx hb dX11_take_18 rfl (lv_at hl 1 rfl) ?_
    have b1 := bd_b hf
    replace hf := bd_k hf
    have hf1 := Option.some.inj hf
    subst hf1
    have hP9 := hP.sub (ws' := (wX11_take h0 h1 kc1 V0 v0_textSize v0_from v0_to v0_token v0_name v0_wrong v0_wrongAt c1)) [0, 1] rfl
    have hD9 := hD.sub (ws' := (wX11_take h0 h1 kc1 V0 v0_textSize v0_from v0_to v0_token v0_name v0_wrong v0_wrongAt c1)) [0, 1] (by decide) rfl
    exact W.zret (v := y2) (ty := .boolean) hx hb hr (bz_nar b1) (fun t ht hW => ⟨⟨y2, (v0_from, v0_to, v0_token, v0_name, v0_wrong, v0_wrongAt), rfl, ⟨rfl, rfl⟩, by rw [ht]; exact hP9, va_K.moved hW.alike hK, hD9⟩, hS.F ht⟩) hS.2.2 dX11_take_19
  refine (hG _ _ _ _ _).mpr ?_
  obtain ⟨H, hH⟩ : ∃ H, H = s.heap := ⟨_, rfl⟩
  have hS : va_S A s.heap H [] := by rw [hH]; exact hS
  rw [← hH] at hP ⊢
  generalize ([] : List Loc) = locs at hS ⊢
  unfold fX11_take at hf
  refine lv_aload_n hx hb dX11_take_0 rfl (lv_at hl 0 rfl) ?_
  refine lv_aload_n hx hb dX11_take_1 rfl (lv_at hl 0 rfl) ?_
  refine lv_iload_n hx hb dX11_take_2 rfl (lv_at hl 1 rfl) ?_
  obtain ⟨o2, e2, hf⟩ := ob_some hf
  refine kVi (As := [.int a0]) (rest := [.ref h0]) ⟨hx, hb, hml, hown, hts⟩ (mX11_sees l dC dI h0 h1 kc1 H.size base a0 v0_textSize v0_from v0_token c1 (fun k => match k with | 22 => .int v0_to | 24 => .long v0_name | 25 => .int v0_wrong | 26 => .int v0_wrongAt | k => V0 k) o2 e2) (cwV 1 hts (gTV q852 q853 q854 q5 q855) rfl rfl rfl (by decide +kernel) ⟨Nat.le_of_ble_eq_true rfl, Nat.le_of_ble_eq_true rfl⟩) hK hP hD hS hA hE hAB [0, 1] [] [0] (wr := []) rfl rfl (by decide) (by decide) (by decide) rfl (ci := 11) (q0 := 0) rfl rfl rfl rfl hl.1 rfl (Nat.le_of_ble_eq_true rfl) dX11_take_3 ⟨Nat.zero_le _, Nat.zero_le _⟩ (fun r2 u2 H locs hw2 hP hD hS => ?_)
  obtain ⟨hw21, hw22⟩ := hw2
  subst hw21 hw22
  have hP : va_P (dC, dI) vwCl (wX11_take h0 h1 kc1 V0 v0_textSize v0_from v0_to v0_token v0_name v0_wrong v0_wrongAt c1) H := hP.sub [0, 1] rfl
  have hD : va_D A (wX11_take h0 h1 kc1 V0 v0_textSize v0_from v0_to v0_token v0_name v0_wrong v0_wrongAt c1) := hD.sub [0, 1] (by decide) rfl
  obtain ⟨o3, e3, hf⟩ := ob_some hf
  refine kVi (As := [.int o2.1]) (rest := []) ⟨hx, hb, hml, hown, hts⟩ (mX11_may l dC dI h0 H.size base o2.1 v0_from v0_token v0_wrong v0_wrongAt (fun k => match k with | 19 => .int v0_textSize | 20 => .ref h1 | 22 => .int v0_to | 24 => .long v0_name | k => V0 k) o3 e3) (cwV 1 hts (gTV q836 q837 q838 q5 q839) rfl rfl rfl (by decide +kernel) ⟨Nat.le_of_ble_eq_true rfl, Nat.le_of_ble_eq_true rfl⟩) hK hP hD hS hA hE hAB [0] [1] [] (wr := [(h1, .inl (kc1, 600, .inl c1))]) rfl rfl (by decide) (by decide) (by decide) rfl (ci := 11) (q0 := 0) rfl rfl rfl rfl hl.1 rfl (Nat.le_of_ble_eq_true rfl) dX11_take_6 ⟨Nat.zero_le _, Nat.zero_le _⟩ (fun r3 u3 H locs hw3 hP hD hS => ?_)
  obtain ⟨hw31, hw32⟩ := hw3
  subst hw31 hw32
  have hP : va_P (dC, dI) vwCl (wX11_take h0 h1 kc1 V0 v0_textSize v0_from v0_to v0_token v0_name o3.2.1 o3.2.2 c1) H := hP.sub [1, 0] rfl
  have hD : va_D A (wX11_take h0 h1 kc1 V0 v0_textSize v0_from v0_to v0_token v0_name o3.2.1 o3.2.2 c1) := hD.sub [1, 0] (by decide) rfl
  refine lv_istore_n (lv' := [(2, .int o3.1), (0, .ref h0), (1, .int a0)]) hx hb dX11_take_9 rfl hl (by decide) rfl (fun ls hl => ?_)
  refine lv_iload_n hx hb dX11_take_10 rfl (lv_at hl 0 rfl) ?_
  refine lv_if_eq (tgt := 18) hx hb dX11_take_11 (by decide) (fun cq4 => ?_) (fun cq4 => ?_)
  · replace hf := if_at hf cq4
    exact (hG _ _ _ _ _).mp (J18 o3.1 v0_from v0_to v0_token v0_name o3.2.1 o3.2.2 H locs ls (hP.sub [0, 1] rfl) (hD.sub [0, 1] (by decide) rfl) hS (lv_sub hl [1, 0] rfl) hf)
  · replace hf := if_no hf cq4
    refine lv_aload_n hx hb dX11_take_14 rfl (lv_at hl 1 rfl) ?_
    obtain ⟨o5, e5, hf⟩ := ob_some hf
    refine kVv (As := []) (rest := []) ⟨hx, hb, hml, hown, hts⟩ (mX11_next l dC dI h0 h1 kc1 H.size base v0_textSize v0_from v0_to v0_token v0_name c1 (fun k => match k with | 25 => .int o3.2.1 | 26 => .int o3.2.2 | k => V0 k) o5 e5) (cwV 0 hts (gTV q797 q798 q799 q5 q800) rfl rfl rfl (by decide +kernel) ⟨Nat.le_of_ble_eq_true rfl, Nat.le_of_ble_eq_true rfl⟩) hK hP hD hS hA hE hAB [0, 1] [] [0] (wr := []) rfl rfl (by decide) (by decide) (by decide) rfl (ci := 11) (q0 := 0) rfl rfl rfl rfl hl.1 rfl (Nat.le_of_ble_eq_true rfl) dX11_take_15 ⟨Nat.zero_le _, Nat.zero_le _⟩ (fun u5 H locs hw5 hP hD hS => ?_)
    have hw51 : o5 = u5 := Eq.symm hw5
    subst hw51
    have hP : va_P (dC, dI) vwCl (wX11_take h0 h1 kc1 V0 v0_textSize o5.1 o5.2.1 o5.2.2.1 o5.2.2.2 o3.2.1 o3.2.2 c1) H := hP.sub [0, 1] rfl
    have hD : va_D A (wX11_take h0 h1 kc1 V0 v0_textSize o5.1 o5.2.1 o5.2.2.1 o5.2.2.2 o3.2.1 o3.2.2 c1) := hD.sub [0, 1] (by decide) rfl
    exact (hG _ _ _ _ _).mp (J18 o3.1 o5.1 o5.2.1 o5.2.2.1 o5.2.2.2 o3.2.1 o3.2.2 H locs ls (hP.sub [0, 1] rfl) (hD.sub [0, 1] (by decide) rfl) hS (lv_sub hl [1, 0] rfl) hf)
abbrev wX11_takeVars (h0 h1 h2 h3 h4 : Nat) (kc1 kc2 kc3 kc4 : ClassId) (V0 : Nat → Value) (v0_textSize : Int32) (v0_from : Int32) (v0_to : Int32) (v0_token : Int32) (v0_name : Int64) (v0_wrong : Int32) (v0_wrongAt : Int32) (v0_globals : Int32) (c1 : Nat → Int64) (c2 : Nat → Int32) (c3 : Nat → Int64) (c4 : Nat → Int32) : va_W := [(h0, .inr (11, [V0 0, V0 1, V0 2, V0 3, V0 4, V0 5, V0 6, V0 7, V0 8, V0 9, V0 10, V0 11, V0 12, V0 13, V0 14, V0 15, V0 16, V0 17, V0 18, .int v0_textSize, .ref h4, .int v0_from, .int v0_to, .int v0_token, .long v0_name, .int v0_wrong, .int v0_wrongAt, V0 27, .int v0_globals, V0 29, V0 30, .ref h1, .ref h3, .ref h2, V0 34, V0 35, V0 36, V0 37, V0 38, V0 39, V0 40, V0 41, V0 42, V0 43, V0 44, V0 45, V0 46, V0 47, V0 48, V0 49, V0 50, V0 51, V0 52, V0 53, V0 54, V0 55, V0 56, V0 57, V0 58, V0 59, V0 60, V0 61, V0 62, V0 63, V0 64, V0 65, V0 66, V0 67, V0 68, V0 69, V0 70])), (h1, .inl (kc1, 3, .inr (.inl c1))), (h2, .inl (kc2, 6, .inl c2)), (h3, .inl (kc3, 12, .inr (.inl c3))), (h4, .inl (kc4, 600, .inl c4))]
set_option maxHeartbeats 4000000 in
set_option maxRecDepth 100000 in
theorem mX11_takeVars (l : Launch) (dC : Nat → ClassId) (dI : Nat → Nat → Nat) (h0 h1 h2 h3 h4 : Nat) (kc1 kc2 kc3 kc4 : ClassId) (sz : Nat) (base : Nat × Nat × Nat) (a0 : Int32) (v0_textSize : Int32) (v0_from : Int32) (v0_to : Int32) (v0_token : Int32) (v0_name : Int64) (v0_wrong : Int32) (v0_wrongAt : Int32) (v0_globals : Int32) (c1 : Nat → Int64) (c2 : Nat → Int32) (c3 : Nat → Int64) (c4 : Nat → Int32) (V0 : Nat → Value) (o : Int32 × Int32 × Int32 × Int32 × Int64 × Int32 × Int32 × Int32 × (Nat → Int64) × (Nat → Int32) × (Nat → Int64)) (hf : fX11_takeVars a0 v0_textSize v0_from v0_to v0_token v0_name v0_wrong v0_wrongAt v0_globals c1 c2 c3 c4 = some o) : Met l yX11_takeVars (.code yX11_takeVars cX11_takeVars 5 (some .boolean) :: wsL_law) ({ frames := 4, cells := 0, slots := 0, locals := 85 }) (cPre (dC, dI) vwCl [.ref h0, .int a0] sz base (wX11_takeVars h0 h1 h2 h3 h4 kc1 kc2 kc3 kc4 V0 v0_textSize v0_from v0_to v0_token v0_name v0_wrong v0_wrongAt v0_globals c1 c2 c3 c4) [(kc1, .long), (kc2, .int), (kc3, .long), (kc4, .int)]) (va_Qi (fun r u => r = o.1 ∧ u = o.2) (fun (u : Int32 × Int32 × Int32 × Int64 × Int32 × Int32 × Int32 × (Nat → Int64) × (Nat → Int32) × (Nat → Int64)) t => cPost (dC, dI) vwCl (va_A (wX11_takeVars h0 h1 h2 h3 h4 kc1 kc2 kc3 kc4 V0 v0_textSize v0_from v0_to v0_token v0_name v0_wrong v0_wrongAt v0_globals c1 c2 c3 c4) sz) (wX11_takeVars h0 h1 h2 h3 h4 kc1 kc2 kc3 kc4 V0 v0_textSize u.1 u.2.1 u.2.2.1 u.2.2.2.1 u.2.2.2.2.1 u.2.2.2.2.2.1 u.2.2.2.2.2.2.1 u.2.2.2.2.2.2.2.1 u.2.2.2.2.2.2.2.2.1 u.2.2.2.2.2.2.2.2.2 c4) [(kc1, .long), (kc2, .int), (kc3, .long), (kc4, .int)] t) (va_A (wX11_takeVars h0 h1 h2 h3 h4 kc1 kc2 kc3 kc4 V0 v0_textSize v0_from v0_to v0_token v0_name v0_wrong v0_wrongAt v0_globals c1 c2 c3 c4) sz)) 0 0 (va_A (wX11_takeVars h0 h1 h2 h3 h4 kc1 kc2 kc3 kc4 V0 v0_textSize v0_from v0_to v0_token v0_name v0_wrong v0_wrongAt v0_globals c1 c2 c3 c4) sz) := by
  refine Met.ofW (cc := cX11_takeVars) (maxL := 5) (ret := (some .boolean)) (by decide) rfl ?_
  intro p e s m args below meth c s₁ B hml hv
  obtain ⟨rfl, hsz, hP, hK, hD0, hE⟩ := hv
  have hx := B.exec
  have hb := B.bytes
  have hr := B.returns
  have hts : ∀ w ∈ wsL_law, _ := fun w h => atoms_spec (ws := .code yX11_takeVars cX11_takeVars 5 (some .boolean) :: wsL_law) B.pre w (List.mem_cons_of_mem _ h)
  have hown : s.vm.findClass RX11 = some m.cls := findClass_of_methodNamed B.named
  have hlocks := B.notSynchronized
  have w0_ := hts _ q801
  have w1_ := hts _ q97
  have w2_ := hts _ q98
  have w3_ := hts _ q803
  have w4_ := hts _ q96
  have w5_ := hts _ q831
  have w6_ := hts _ q802
  subst hsz
  have hD := hD0.self (sz := s.heap.size)
  generalize hAe : va_A (wX11_takeVars h0 h1 h2 h3 h4 kc1 kc2 kc3 kc4 V0 v0_textSize v0_from v0_to v0_token v0_name v0_wrong v0_wrongAt v0_globals c1 c2 c3 c4) s.heap.size = A at hD ⊢
  have hA : ∀ q : Nat, s.heap.size ≤ q → A q := fun q h => by rw [← hAe]; exact Or.inr h
  have hAB : ∀ q : Nat, A q → base.1 ≤ q := fun q h => by rw [← hAe] at h; exact h.elim (fun ⟨k, e, hk⟩ => hD0.2 k _ hk) (fun hk => Nat.le_trans hE.1 hk)
  have hS : va_S A s.heap s.heap [] := va_S.rf
  have hl := lv_entry ([.ref h0, .int a0]) (n := 5) (Nat.le_of_ble_eq_true rfl)
  rw [lg_entry_eq]
  generalize (lg_sl ([.ref h0, .int a0]) ++ List.replicate (5 - (lg_sl ([.ref h0, .int a0])).length) Slot.unset).toArray = ls at hl ⊢
  have hl : lv_has ls 5 [(0, .ref h0), (1, .int a0)] := hl
  have hP : va_P (dC, dI) vwCl (wX11_takeVars h0 h1 h2 h3 h4 kc1 kc2 kc3 kc4 V0 v0_textSize v0_from v0_to v0_token v0_name v0_wrong v0_wrongAt v0_globals c1 c2 c3 c4) s.heap := hP
  refine gl_intro (fun G hG => ?_)
  have J152 : ∀ (v0_from : Int32) (v0_to : Int32) (v0_token : Int32) (v0_name : Int64) (v0_wrong : Int32) (v0_wrongAt : Int32) (v0_globals : Int32) (c1 : (Nat → Int64)) (c2 : (Nat → Int32)) (c3 : (Nat → Int64)) (H : Heap) (locs : List Loc) (ls : Array Slot), va_P (dC, dI) vwCl (wX11_takeVars h0 h1 h2 h3 h4 kc1 kc2 kc3 kc4 V0 v0_textSize v0_from v0_to v0_token v0_name v0_wrong v0_wrongAt v0_globals c1 c2 c3 c4) H → va_D A (wX11_takeVars h0 h1 h2 h3 h4 kc1 kc2 kc3 kc4 V0 v0_textSize v0_from v0_to v0_token v0_name v0_wrong v0_wrongAt v0_globals c1 c2 c3 c4) → va_S A s.heap H locs → lv_has ls 5 [(0, .ref h0)] → fX11_takeVars_p152 v0_textSize c4  v0_from v0_to v0_token v0_name v0_wrong v0_wrongAt v0_globals c1 c2 c3 = some o → G 0 0 H locs (F0 m 152 ls []) := by
    intro  v0_from v0_to v0_token v0_name v0_wrong v0_wrongAt v0_globals c1 c2 c3 H locs ls hP hD hS hl hf
    refine (hG _ _ _ _ _).mpr ?_
    unfold fX11_takeVars_p152 at hf
    refine lv_aload_n hx hb dX11_takeVars_152 rfl (lv_at hl 0 rfl) ?_
    refine lv_iconst (v := 3) hx hb dX11_takeVars_153 (by decide +kernel) ?_
    refine lv_aload_n hx hb dX11_takeVars_154 rfl (lv_at hl 0 rfl) ?_
    refine va_get (D := (dC, dI)) (ci := 11) (v := .int v0_from) (C := RX11) (T := TX11) (N := 71) hx hb hts inlX11 hown hK hP 0 rfl rfl 21 (by decide) w0_ (fun _ h9 => h9) rfl dX11_takeVars_155 ?_
    obtain ⟨o1, e1, hf⟩ := ob_some hf
    refine kVi (As := [.int 3, .int v0_from]) (rest := []) ⟨hx, hb, hml, hown, hts⟩ (mX11_fail l dC dI h0 H.size base 3 v0_from v0_wrong v0_wrongAt (fun k => match k with | 19 => .int v0_textSize | 20 => .ref h4 | 21 => .int v0_from | 22 => .int v0_to | 23 => .int v0_token | 24 => .long v0_name | 28 => .int v0_globals | 31 => .ref h1 | 32 => .ref h3 | 33 => .ref h2 | k => V0 k) o1 e1) (cwV 2 hts (gTV q840 q841 q842 q5 q843) rfl rfl rfl (by decide +kernel) ⟨Nat.le_of_ble_eq_true rfl, Nat.le_of_ble_eq_true rfl⟩) hK hP hD hS hA hE hAB [0] [1, 2, 3, 4] [] (wr := [(h1, .inl (kc1, 3, .inr (.inl c1))), (h2, .inl (kc2, 6, .inl c2)), (h3, .inl (kc3, 12, .inr (.inl c3))), (h4, .inl (kc4, 600, .inl c4))]) rfl rfl (by decide) (by decide) (by decide) rfl (ci := 11) (q0 := 0) rfl rfl rfl rfl hl.1 rfl (Nat.le_of_ble_eq_true rfl) dX11_takeVars_158 ⟨Nat.zero_le _, Nat.zero_le _⟩ (fun r1 u1 H locs hw1 hP hD hS => ?_)
    obtain ⟨hw11, hw12⟩ := hw1
    subst hw11 hw12
    have hP : va_P (dC, dI) vwCl (wX11_takeVars h0 h1 h2 h3 h4 kc1 kc2 kc3 kc4 V0 v0_textSize v0_from v0_to v0_token v0_name o1.2.1 o1.2.2 v0_globals c1 c2 c3 c4) H := hP.sub [4, 0, 1, 2, 3] rfl
    have hD : va_D A (wX11_takeVars h0 h1 h2 h3 h4 kc1 kc2 kc3 kc4 V0 v0_textSize v0_from v0_to v0_token v0_name o1.2.1 o1.2.2 v0_globals c1 c2 c3 c4) := hD.sub [4, 0, 1, 2, 3] (by decide) rfl
    have b2 := bd_b hf
    replace hf := bd_k hf
    have hf1 := Option.some.inj hf
    subst hf1
    have hP9 := hP.sub (ws' := (wX11_takeVars h0 h1 h2 h3 h4 kc1 kc2 kc3 kc4 V0 v0_textSize v0_from v0_to v0_token v0_name o1.2.1 o1.2.2 v0_globals c1 c2 c3 c4)) [0, 1, 2, 3, 4] rfl
    have hD9 := hD.sub (ws' := (wX11_takeVars h0 h1 h2 h3 h4 kc1 kc2 kc3 kc4 V0 v0_textSize v0_from v0_to v0_token v0_name o1.2.1 o1.2.2 v0_globals c1 c2 c3 c4)) [0, 1, 2, 3, 4] (by decide) rfl
    exact W.zret (v := o1.1) (ty := .boolean) hx hb hr (bz_nar b2) (fun t ht hW => ⟨⟨o1.1, (v0_from, v0_to, v0_token, v0_name, o1.2.1, o1.2.2, v0_globals, c1, c2, c3), rfl, ⟨rfl, rfl⟩, by rw [ht]; exact hP9, va_K.moved hW.alike hK, hD9⟩, hS.F ht⟩) hS.2.2 dX11_takeVars_161
  have J241 : ∀ (k2 : Int32 → Int32 → Int32 → Int32 → Int32 → Int64 → Int32 → Int32 → Int32 → (Nat → Int64) → (Nat → Int32) → (Nat → Int64) → Option (Int32 × Int32 × Int32 × Int32 × Int64 × Int32 × Int32 × Int32 × (Nat → Int64) × (Nat → Int32) × (Nat → Int64))) (hk2 : ∀ (y1 : Int32) (y2 : Int32) (v0_from : Int32) (v0_to : Int32) (v0_token : Int32) (v0_name : Int64) (v0_wrong : Int32) (v0_wrongAt : Int32) (v0_globals : Int32) (c1 : (Nat → Int64)) (c2 : (Nat → Int32)) (c3 : (Nat → Int64)) (H : Heap) (locs : List Loc) (ls : Array Slot), va_P (dC, dI) vwCl (wX11_takeVars h0 h1 h2 h3 h4 kc1 kc2 kc3 kc4 V0 v0_textSize v0_from v0_to v0_token v0_name v0_wrong v0_wrongAt v0_globals c1 c2 c3 c4) H → va_D A (wX11_takeVars h0 h1 h2 h3 h4 kc1 kc2 kc3 kc4 V0 v0_textSize v0_from v0_to v0_token v0_name v0_wrong v0_wrongAt v0_globals c1 c2 c3 c4) → va_S A s.heap H locs → lv_has ls 5 [(0, .ref h0), (1, .int y1), (2, .int y2)] → k2 y1 y2 v0_from v0_to v0_token v0_name v0_wrong v0_wrongAt v0_globals c1 c2 c3 = some o → G 0 0 H locs (F0 m 2 ls [])), ∀ (y1 : Int32) (y2 : Int32) (v0_from : Int32) (v0_to : Int32) (v0_token : Int32) (v0_name : Int64) (v0_wrong : Int32) (v0_wrongAt : Int32) (v0_globals : Int32) (c1 : (Nat → Int64)) (c2 : (Nat → Int32)) (c3 : (Nat → Int64)) (H : Heap) (locs : List Loc) (ls : Array Slot), va_P (dC, dI) vwCl (wX11_takeVars h0 h1 h2 h3 h4 kc1 kc2 kc3 kc4 V0 v0_textSize v0_from v0_to v0_token v0_name v0_wrong v0_wrongAt v0_globals c1 c2 c3 c4) H → va_D A (wX11_takeVars h0 h1 h2 h3 h4 kc1 kc2 kc3 kc4 V0 v0_textSize v0_from v0_to v0_token v0_name v0_wrong v0_wrongAt v0_globals c1 c2 c3 c4) → va_S A s.heap H locs → lv_has ls 5 [(0, .ref h0), (1, .int y1), (2, .int y2)] → fX11_takeVars_p241 v0_textSize c4 k2 y1 y2 v0_from v0_to v0_token v0_name v0_wrong v0_wrongAt v0_globals c1 c2 c3 = some o → G 0 0 H locs (F0 m 241 ls []) := by
    intro k2 hk2 y1 y2 v0_from v0_to v0_token v0_name v0_wrong v0_wrongAt v0_globals c1 c2 c3 H locs ls hP hD hS hl hf
    refine (hG _ _ _ _ _).mpr ?_
    unfold fX11_takeVars_p241 at hf
    refine lv_goto (tgt := 2) hx hb dX11_takeVars_241 (by decide) ?_
    exact (hG _ _ _ _ _).mp (hk2 y1 y2 v0_from v0_to v0_token v0_name v0_wrong v0_wrongAt v0_globals c1 c2 c3 H locs ls (hP.sub [0, 1, 2, 3, 4] rfl) (hD.sub [0, 1, 2, 3, 4] (by decide) rfl) hS (lv_sub hl [0, 1, 2] rfl) hf)
  have J222 : ∀ (k2 : Int32 → Int32 → Int32 → Int32 → Int32 → Int64 → Int32 → Int32 → Int32 → (Nat → Int64) → (Nat → Int32) → (Nat → Int64) → Option (Int32 × Int32 × Int32 × Int32 × Int64 × Int32 × Int32 × Int32 × (Nat → Int64) × (Nat → Int32) × (Nat → Int64))) (hk2 : ∀ (y1 : Int32) (y2 : Int32) (v0_from : Int32) (v0_to : Int32) (v0_token : Int32) (v0_name : Int64) (v0_wrong : Int32) (v0_wrongAt : Int32) (v0_globals : Int32) (c1 : (Nat → Int64)) (c2 : (Nat → Int32)) (c3 : (Nat → Int64)) (H : Heap) (locs : List Loc) (ls : Array Slot), va_P (dC, dI) vwCl (wX11_takeVars h0 h1 h2 h3 h4 kc1 kc2 kc3 kc4 V0 v0_textSize v0_from v0_to v0_token v0_name v0_wrong v0_wrongAt v0_globals c1 c2 c3 c4) H → va_D A (wX11_takeVars h0 h1 h2 h3 h4 kc1 kc2 kc3 kc4 V0 v0_textSize v0_from v0_to v0_token v0_name v0_wrong v0_wrongAt v0_globals c1 c2 c3 c4) → va_S A s.heap H locs → lv_has ls 5 [(0, .ref h0), (1, .int y1), (2, .int y2)] → k2 y1 y2 v0_from v0_to v0_token v0_name v0_wrong v0_wrongAt v0_globals c1 c2 c3 = some o → G 0 0 H locs (F0 m 2 ls [])), ∀ (y1 : Int32) (v0_from : Int32) (v0_to : Int32) (v0_token : Int32) (v0_name : Int64) (v0_wrong : Int32) (v0_wrongAt : Int32) (v0_globals : Int32) (c1 : (Nat → Int64)) (c2 : (Nat → Int32)) (c3 : (Nat → Int64)) (H : Heap) (locs : List Loc) (ls : Array Slot), va_P (dC, dI) vwCl (wX11_takeVars h0 h1 h2 h3 h4 kc1 kc2 kc3 kc4 V0 v0_textSize v0_from v0_to v0_token v0_name v0_wrong v0_wrongAt v0_globals c1 c2 c3 c4) H → va_D A (wX11_takeVars h0 h1 h2 h3 h4 kc1 kc2 kc3 kc4 V0 v0_textSize v0_from v0_to v0_token v0_name v0_wrong v0_wrongAt v0_globals c1 c2 c3 c4) → va_S A s.heap H locs → lv_has ls 5 [(0, .ref h0), (1, .int y1)] → fX11_takeVars_p222 v0_textSize c4 k2 y1 v0_from v0_to v0_token v0_name v0_wrong v0_wrongAt v0_globals c1 c2 c3 = some o → G 0 0 H locs (F0 m 222 ls []) := by
    intro k2 hk2 y1 v0_from v0_to v0_token v0_name v0_wrong v0_wrongAt v0_globals c1 c2 c3 H locs ls hP hD hS hl hf
    refine (hG _ _ _ _ _).mpr ?_
    unfold fX11_takeVars_p222 at hf
    refine lv_aload_n hx hb dX11_takeVars_222 rfl (lv_at hl 0 rfl) ?_
    obtain ⟨o3, e3, hf⟩ := ob_some hf
    refine kVv (As := []) (rest := []) ⟨hx, hb, hml, hown, hts⟩ (mX11_next l dC dI h0 h4 kc4 H.size base v0_textSize v0_from v0_to v0_token v0_name c4 (fun k => match k with | 25 => .int v0_wrong | 26 => .int v0_wrongAt | 28 => .int v0_globals | 31 => .ref h1 | 32 => .ref h3 | 33 => .ref h2 | k => V0 k) o3 e3) (cwV 0 hts (gTV q797 q798 q799 q5 q800) rfl rfl rfl (by decide +kernel) ⟨Nat.le_of_ble_eq_true rfl, Nat.le_of_ble_eq_true rfl⟩) hK hP hD hS hA hE hAB [0, 4] [1, 2, 3] [3] (wr := [(h1, .inl (kc1, 3, .inr (.inl c1))), (h2, .inl (kc2, 6, .inl c2)), (h3, .inl (kc3, 12, .inr (.inl c3)))]) rfl rfl (by decide) (by decide) (by decide) rfl (ci := 11) (q0 := 0) rfl rfl rfl rfl hl.1 rfl (Nat.le_of_ble_eq_true rfl) dX11_takeVars_223 ⟨Nat.zero_le _, Nat.zero_le _⟩ (fun u3 H locs hw3 hP hD hS => ?_)
    have hw31 : o3 = u3 := Eq.symm hw3
    subst hw31
    have hP : va_P (dC, dI) vwCl (wX11_takeVars h0 h1 h2 h3 h4 kc1 kc2 kc3 kc4 V0 v0_textSize o3.1 o3.2.1 o3.2.2.1 o3.2.2.2 v0_wrong v0_wrongAt v0_globals c1 c2 c3 c4) H := hP.sub [3, 0, 1, 2, 4] rfl
    have hD : va_D A (wX11_takeVars h0 h1 h2 h3 h4 kc1 kc2 kc3 kc4 V0 v0_textSize o3.1 o3.2.1 o3.2.2.1 o3.2.2.2 v0_wrong v0_wrongAt v0_globals c1 c2 c3 c4) := hD.sub [3, 0, 1, 2, 4] (by decide) rfl
    refine lv_aload_n hx hb dX11_takeVars_226 rfl (lv_at hl 0 rfl) ?_
    refine lv_bipush (v := 44) hx hb dX11_takeVars_227 (by decide +kernel) ?_
    obtain ⟨o4, e4, hf⟩ := ob_some hf
    refine kVi (As := [.int 44]) (rest := []) ⟨hx, hb, hml, hown, hts⟩ (mX11_sees l dC dI h0 h4 kc4 H.size base 44 v0_textSize o3.1 o3.2.2.1 c4 (fun k => match k with | 22 => .int o3.2.1 | 24 => .long o3.2.2.2 | 25 => .int v0_wrong | 26 => .int v0_wrongAt | 28 => .int v0_globals | 31 => .ref h1 | 32 => .ref h3 | 33 => .ref h2 | k => V0 k) o4 e4) (cwV 1 hts (gTV q852 q853 q854 q5 q855) rfl rfl rfl (by decide +kernel) ⟨Nat.le_of_ble_eq_true rfl, Nat.le_of_ble_eq_true rfl⟩) hK hP hD hS hA hE hAB [0, 4] [1, 2, 3] [3] (wr := [(h1, .inl (kc1, 3, .inr (.inl c1))), (h2, .inl (kc2, 6, .inl c2)), (h3, .inl (kc3, 12, .inr (.inl c3)))]) rfl rfl (by decide) (by decide) (by decide) rfl (ci := 11) (q0 := 0) rfl rfl rfl rfl hl.1 rfl (Nat.le_of_ble_eq_true rfl) dX11_takeVars_229 ⟨Nat.zero_le _, Nat.zero_le _⟩ (fun r4 u4 H locs hw4 hP hD hS => ?_)
    obtain ⟨hw41, hw42⟩ := hw4
    subst hw41 hw42
    have hP : va_P (dC, dI) vwCl (wX11_takeVars h0 h1 h2 h3 h4 kc1 kc2 kc3 kc4 V0 v0_textSize o3.1 o3.2.1 o3.2.2.1 o3.2.2.2 v0_wrong v0_wrongAt v0_globals c1 c2 c3 c4) H := hP.sub [3, 0, 1, 2, 4] rfl
    have hD : va_D A (wX11_takeVars h0 h1 h2 h3 h4 kc1 kc2 kc3 kc4 V0 v0_textSize o3.1 o3.2.1 o3.2.2.1 o3.2.2.2 v0_wrong v0_wrongAt v0_globals c1 c2 c3 c4) := hD.sub [3, 0, 1, 2, 4] (by decide) rfl
    refine lv_istore_n (lv' := [(2, .int o4.1), (0, .ref h0), (1, .int y1)]) hx hb dX11_takeVars_232 rfl hl (by decide) rfl (fun ls hl => ?_)
    refine lv_iload_n hx hb dX11_takeVars_233 rfl (lv_at hl 0 rfl) ?_
    refine lv_if_eq (tgt := 241) hx hb dX11_takeVars_234 (by decide) (fun cq5 => ?_) (fun cq5 => ?_)
    · replace hf := if_at hf cq5
      exact (hG _ _ _ _ _).mp (J241 k2 hk2 y1 o4.1 o3.1 o3.2.1 o3.2.2.1 o3.2.2.2 v0_wrong v0_wrongAt v0_globals c1 c2 c3 H locs ls (hP.sub [0, 1, 2, 3, 4] rfl) (hD.sub [0, 1, 2, 3, 4] (by decide) rfl) hS (lv_sub hl [1, 2, 0] rfl) hf)
    · replace hf := if_no hf cq5
      refine lv_aload_n hx hb dX11_takeVars_237 rfl (lv_at hl 1 rfl) ?_
      obtain ⟨o6, e6, hf⟩ := ob_some hf
      refine kVv (As := []) (rest := []) ⟨hx, hb, hml, hown, hts⟩ (mX11_next l dC dI h0 h4 kc4 H.size base v0_textSize o3.1 o3.2.1 o3.2.2.1 o3.2.2.2 c4 (fun k => match k with | 25 => .int v0_wrong | 26 => .int v0_wrongAt | 28 => .int v0_globals | 31 => .ref h1 | 32 => .ref h3 | 33 => .ref h2 | k => V0 k) o6 e6) (cwV 0 hts (gTV q797 q798 q799 q5 q800) rfl rfl rfl (by decide +kernel) ⟨Nat.le_of_ble_eq_true rfl, Nat.le_of_ble_eq_true rfl⟩) hK hP hD hS hA hE hAB [0, 4] [1, 2, 3] [3] (wr := [(h1, .inl (kc1, 3, .inr (.inl c1))), (h2, .inl (kc2, 6, .inl c2)), (h3, .inl (kc3, 12, .inr (.inl c3)))]) rfl rfl (by decide) (by decide) (by decide) rfl (ci := 11) (q0 := 0) rfl rfl rfl rfl hl.1 rfl (Nat.le_of_ble_eq_true rfl) dX11_takeVars_238 ⟨Nat.zero_le _, Nat.zero_le _⟩ (fun u6 H locs hw6 hP hD hS => ?_)
      have hw61 : o6 = u6 := Eq.symm hw6
      subst hw61
      have hP : va_P (dC, dI) vwCl (wX11_takeVars h0 h1 h2 h3 h4 kc1 kc2 kc3 kc4 V0 v0_textSize o6.1 o6.2.1 o6.2.2.1 o6.2.2.2 v0_wrong v0_wrongAt v0_globals c1 c2 c3 c4) H := hP.sub [3, 0, 1, 2, 4] rfl
      have hD : va_D A (wX11_takeVars h0 h1 h2 h3 h4 kc1 kc2 kc3 kc4 V0 v0_textSize o6.1 o6.2.1 o6.2.2.1 o6.2.2.2 v0_wrong v0_wrongAt v0_globals c1 c2 c3 c4) := hD.sub [3, 0, 1, 2, 4] (by decide) rfl
      exact (hG _ _ _ _ _).mp (J241 k2 hk2 y1 o4.1 o6.1 o6.2.1 o6.2.2.1 o6.2.2.2 v0_wrong v0_wrongAt v0_globals c1 c2 c3 H locs ls (hP.sub [0, 1, 2, 3, 4] rfl) (hD.sub [0, 1, 2, 3, 4] (by decide) rfl) hS (lv_sub hl [1, 2, 0] rfl) hf)
  have J162 : ∀ (k2 : Int32 → Int32 → Int32 → Int32 → Int32 → Int64 → Int32 → Int32 → Int32 → (Nat → Int64) → (Nat → Int32) → (Nat → Int64) → Option (Int32 × Int32 × Int32 × Int32 × Int64 × Int32 × Int32 × Int32 × (Nat → Int64) × (Nat → Int32) × (Nat → Int64))) (hk2 : ∀ (y1 : Int32) (y2 : Int32) (v0_from : Int32) (v0_to : Int32) (v0_token : Int32) (v0_name : Int64) (v0_wrong : Int32) (v0_wrongAt : Int32) (v0_globals : Int32) (c1 : (Nat → Int64)) (c2 : (Nat → Int32)) (c3 : (Nat → Int64)) (H : Heap) (locs : List Loc) (ls : Array Slot), va_P (dC, dI) vwCl (wX11_takeVars h0 h1 h2 h3 h4 kc1 kc2 kc3 kc4 V0 v0_textSize v0_from v0_to v0_token v0_name v0_wrong v0_wrongAt v0_globals c1 c2 c3 c4) H → va_D A (wX11_takeVars h0 h1 h2 h3 h4 kc1 kc2 kc3 kc4 V0 v0_textSize v0_from v0_to v0_token v0_name v0_wrong v0_wrongAt v0_globals c1 c2 c3 c4) → va_S A s.heap H locs → lv_has ls 5 [(0, .ref h0), (1, .int y1), (2, .int y2)] → k2 y1 y2 v0_from v0_to v0_token v0_name v0_wrong v0_wrongAt v0_globals c1 c2 c3 = some o → G 0 0 H locs (F0 m 2 ls [])), ∀ (y1 : Int32) (v0_from : Int32) (v0_to : Int32) (v0_token : Int32) (v0_name : Int64) (v0_wrong : Int32) (v0_wrongAt : Int32) (v0_globals : Int32) (c1 : (Nat → Int64)) (c2 : (Nat → Int32)) (c3 : (Nat → Int64)) (H : Heap) (locs : List Loc) (ls : Array Slot), va_P (dC, dI) vwCl (wX11_takeVars h0 h1 h2 h3 h4 kc1 kc2 kc3 kc4 V0 v0_textSize v0_from v0_to v0_token v0_name v0_wrong v0_wrongAt v0_globals c1 c2 c3 c4) H → va_D A (wX11_takeVars h0 h1 h2 h3 h4 kc1 kc2 kc3 kc4 V0 v0_textSize v0_from v0_to v0_token v0_name v0_wrong v0_wrongAt v0_globals c1 c2 c3 c4) → va_S A s.heap H locs → lv_has ls 5 [(0, .ref h0), (1, .int y1)] → fX11_takeVars_p162 v0_textSize c4 k2 y1 v0_from v0_to v0_token v0_name v0_wrong v0_wrongAt v0_globals c1 c2 c3 = some o → G 0 0 H locs (F0 m 162 ls []) := by
    intro k2 hk2 y1 v0_from v0_to v0_token v0_name v0_wrong v0_wrongAt v0_globals c1 c2 c3 H locs ls hP hD hS hl hf
    refine (hG _ _ _ _ _).mpr ?_
    unfold fX11_takeVars_p162 at hf
    refine lv_iload_n hx hb dX11_takeVars_162 rfl (lv_at hl 1 rfl) ?_
    refine lv_iconst (v := (-1)) hx hb dX11_takeVars_163 (by decide +kernel) ?_
    refine lv_icmp_ne (tgt := 193) hx hb dX11_takeVars_164 (by decide) (fun cq7 => ?_) (fun cq7 => ?_)
    · replace hf := if_no hf cq7
      refine lv_aload_n hx hb dX11_takeVars_193 rfl (lv_at hl 0 rfl) ?_
      refine va_get (D := (dC, dI)) (ci := 11) (v := .ref h3) (C := RX11) (T := TX11) (N := 71) hx hb hts inlX11 hown hK hP 0 rfl rfl 32 (by decide) w1_ (fun _ h9 => h9) rfl dX11_takeVars_194 ?_
      refine lv_iconst (v := 2) hx hb dX11_takeVars_197 (by decide +kernel) ?_
      refine lv_iload_n hx hb dX11_takeVars_198 rfl (lv_at hl 1 rfl) ?_
      refine lv_imul hx hb dX11_takeVars_199 ?_
      refine lv_topi (fun x8 e8 => ?_)
      replace hf := nm_at hf e8
      refine lv_aload_n hx hb dX11_takeVars_200 rfl (lv_at hl 0 rfl) ?_
      refine va_get (D := (dC, dI)) (ci := 11) (v := .ref h2) (C := RX11) (T := TX11) (N := 71) hx hb hts inlX11 hown hK hP 0 rfl rfl 33 (by decide) w2_ (fun _ h9 => h9) rfl dX11_takeVars_201 ?_
      refine lv_iload_n hx hb dX11_takeVars_204 rfl (lv_at hl 1 rfl) ?_
      have b9 := bd_in hf
      replace hf := bd_k hf
      refine va_iald hx hb hK hP 2 1 rfl rfl b9 dX11_takeVars_205 ?_
      refine lv_topi (fun x10 e10 => ?_)
      replace hf := nm_at hf e10
      refine lv_iadd hx hb dX11_takeVars_206 ?_
      refine lv_topi (fun x11 e11 => ?_)
      replace hf := nm_at hf e11
      refine lv_aload_n hx hb dX11_takeVars_207 rfl (lv_at hl 0 rfl) ?_
      refine va_get (D := (dC, dI)) (ci := 11) (v := .long v0_name) (C := RX11) (T := TX11) (N := 71) hx hb hts inlX11 hown hK hP 0 rfl rfl 24 (by decide) w3_ (fun _ h9 => h9) rfl dX11_takeVars_208 ?_
      have b12 := bd_in hf
      replace hf := bd_k hf
      obtain ⟨c12x, e12⟩ : ∃ y, y = vp_updL c3 x11.toNatClampNeg v0_name := ⟨_, rfl⟩
      replace hf := nm_at hf e12
      refine va_last hx hb hK hP hD hS 3 2 rfl rfl b12 dX11_takeVars_211 (fun H locs hP hD hS => ?_)
      have hP : va_P (dC, dI) vwCl (wX11_takeVars h0 h1 h2 h3 h4 kc1 kc2 kc3 kc4 V0 v0_textSize v0_from v0_to v0_token v0_name v0_wrong v0_wrongAt v0_globals c1 c2 c12x c4) H := by rw [e12]; exact hP
      have hD : va_D A (wX11_takeVars h0 h1 h2 h3 h4 kc1 kc2 kc3 kc4 V0 v0_textSize v0_from v0_to v0_token v0_name v0_wrong v0_wrongAt v0_globals c1 c2 c12x c4) := by rw [e12]; exact hD
      refine lv_aload_n hx hb dX11_takeVars_212 rfl (lv_at hl 0 rfl) ?_
      refine va_get (D := (dC, dI)) (ci := 11) (v := .ref h2) (C := RX11) (T := TX11) (N := 71) hx hb hts inlX11 hown hK hP 0 rfl rfl 33 (by decide) w2_ (fun _ h9 => h9) rfl dX11_takeVars_213 ?_
      refine lv_iload_n hx hb dX11_takeVars_216 rfl (lv_at hl 1 rfl) ?_
      refine lv_dup2_11 hx hb dX11_takeVars_217 rfl rfl ?_
      have b13 := bd_in hf
      replace hf := bd_k hf
      refine va_iald hx hb hK hP 2 1 rfl rfl b13 dX11_takeVars_218 ?_
      refine lv_topi (fun x14 e14 => ?_)
      replace hf := nm_at hf e14
      refine lv_iconst (v := 1) hx hb dX11_takeVars_219 (by decide +kernel) ?_
      refine lv_iadd hx hb dX11_takeVars_220 ?_
      refine lv_topi (fun x15 e15 => ?_)
      replace hf := nm_at hf e15
      have b16 := bd_in hf
      replace hf := bd_k hf
      obtain ⟨c16x, e16⟩ : ∃ y, y = upd c2 y1.toNatClampNeg x15 := ⟨_, rfl⟩
      replace hf := nm_at hf e16
      refine va_iast hx hb hK hP hD hS 2 1 rfl rfl b16 dX11_takeVars_221 (fun H locs hP hD hS => ?_)
      have hP : va_P (dC, dI) vwCl (wX11_takeVars h0 h1 h2 h3 h4 kc1 kc2 kc3 kc4 V0 v0_textSize v0_from v0_to v0_token v0_name v0_wrong v0_wrongAt v0_globals c1 c16x c12x c4) H := by rw [e16]; exact hP
      have hD : va_D A (wX11_takeVars h0 h1 h2 h3 h4 kc1 kc2 kc3 kc4 V0 v0_textSize v0_from v0_to v0_token v0_name v0_wrong v0_wrongAt v0_globals c1 c16x c12x c4) := by rw [e16]; exact hD
      exact (hG _ _ _ _ _).mp (J222 k2 hk2 y1 v0_from v0_to v0_token v0_name v0_wrong v0_wrongAt v0_globals c1 c16x c12x H locs ls (hP.sub [0, 1, 2, 3, 4] rfl) (hD.sub [0, 1, 2, 3, 4] (by decide) rfl) hS (lv_sub hl [0, 1] rfl) hf)
    · replace hf := if_at hf cq7
      refine lv_aload_n hx hb dX11_takeVars_167 rfl (lv_at hl 0 rfl) ?_
      refine va_get (D := (dC, dI)) (ci := 11) (v := .ref h1) (C := RX11) (T := TX11) (N := 71) hx hb hts inlX11 hown hK hP 0 rfl rfl 31 (by decide) w4_ (fun _ h9 => h9) rfl dX11_takeVars_168 ?_
      refine lv_aload_n hx hb dX11_takeVars_171 rfl (lv_at hl 0 rfl) ?_
      refine va_get (D := (dC, dI)) (ci := 11) (v := .int v0_globals) (C := RX11) (T := TX11) (N := 71) hx hb hts inlX11 hown hK hP 0 rfl rfl 28 (by decide) w5_ (fun _ h9 => h9) rfl dX11_takeVars_172 ?_
      refine lv_aload_n hx hb dX11_takeVars_175 rfl (lv_at hl 0 rfl) ?_
      refine va_get (D := (dC, dI)) (ci := 11) (v := .long v0_name) (C := RX11) (T := TX11) (N := 71) hx hb hts inlX11 hown hK hP 0 rfl rfl 24 (by decide) w3_ (fun _ h9 => h9) rfl dX11_takeVars_176 ?_
      have b17 := bd_in hf
      replace hf := bd_k hf
      obtain ⟨c17x, e17⟩ : ∃ y, y = vp_updL c1 v0_globals.toNatClampNeg v0_name := ⟨_, rfl⟩
      replace hf := nm_at hf e17
      refine va_last hx hb hK hP hD hS 1 0 rfl rfl b17 dX11_takeVars_179 (fun H locs hP hD hS => ?_)
      have hP : va_P (dC, dI) vwCl (wX11_takeVars h0 h1 h2 h3 h4 kc1 kc2 kc3 kc4 V0 v0_textSize v0_from v0_to v0_token v0_name v0_wrong v0_wrongAt v0_globals c17x c2 c3 c4) H := by rw [e17]; exact hP
      have hD : va_D A (wX11_takeVars h0 h1 h2 h3 h4 kc1 kc2 kc3 kc4 V0 v0_textSize v0_from v0_to v0_token v0_name v0_wrong v0_wrongAt v0_globals c17x c2 c3 c4) := by rw [e17]; exact hD
      refine lv_aload_n hx hb dX11_takeVars_180 rfl (lv_at hl 0 rfl) ?_
      refine lv_dup hx hb dX11_takeVars_181 rfl ?_
      refine va_get (D := (dC, dI)) (ci := 11) (v := .int v0_globals) (C := RX11) (T := TX11) (N := 71) hx hb hts inlX11 hown hK hP 0 rfl rfl 28 (by decide) w5_ (fun _ h9 => h9) rfl dX11_takeVars_182 ?_
      refine lv_iconst (v := 1) hx hb dX11_takeVars_185 (by decide +kernel) ?_
      refine lv_iadd hx hb dX11_takeVars_186 ?_
      refine lv_topi (fun x18 e18 => ?_)
      replace hf := nm_at hf e18
      refine va_put (D := (dC, dI)) (ci := 11) (v := .int x18) (ty := .int) (C := RX11) (T := TX11) (N := 71) hx hb hts inlX11 tyX11 tyX11_ok nmX11 hown hK hP hD hS 0 rfl rfl 28 (by decide) w5_ (fun _ h9 => h9) rfl (by decide +kernel) rfl rfl (Nat.le_of_ble_eq_true rfl) dX11_takeVars_187 (fun H locs hP hD hS => ?_)
      have hP : va_P (dC, dI) vwCl (wX11_takeVars h0 h1 h2 h3 h4 kc1 kc2 kc3 kc4 V0 v0_textSize v0_from v0_to v0_token v0_name v0_wrong v0_wrongAt x18 c17x c2 c3 c4) H := hP
      have hD : va_D A (wX11_takeVars h0 h1 h2 h3 h4 kc1 kc2 kc3 kc4 V0 v0_textSize v0_from v0_to v0_token v0_name v0_wrong v0_wrongAt x18 c17x c2 c3 c4) := hD
      refine lv_goto (tgt := 222) hx hb dX11_takeVars_190 (by decide) ?_
      exact (hG _ _ _ _ _).mp (J222 k2 hk2 y1 v0_from v0_to v0_token v0_name v0_wrong v0_wrongAt x18 c17x c2 c3 H locs ls (hP.sub [0, 1, 2, 3, 4] rfl) (hD.sub [0, 1, 2, 3, 4] (by decide) rfl) hS (lv_sub hl [0, 1] rfl) hf)
  have J121 : ∀ (k2 : Int32 → Int32 → Int32 → Int32 → Int32 → Int64 → Int32 → Int32 → Int32 → (Nat → Int64) → (Nat → Int32) → (Nat → Int64) → Option (Int32 × Int32 × Int32 × Int32 × Int64 × Int32 × Int32 × Int32 × (Nat → Int64) × (Nat → Int32) × (Nat → Int64))) (hk2 : ∀ (y1 : Int32) (y2 : Int32) (v0_from : Int32) (v0_to : Int32) (v0_token : Int32) (v0_name : Int64) (v0_wrong : Int32) (v0_wrongAt : Int32) (v0_globals : Int32) (c1 : (Nat → Int64)) (c2 : (Nat → Int32)) (c3 : (Nat → Int64)) (H : Heap) (locs : List Loc) (ls : Array Slot), va_P (dC, dI) vwCl (wX11_takeVars h0 h1 h2 h3 h4 kc1 kc2 kc3 kc4 V0 v0_textSize v0_from v0_to v0_token v0_name v0_wrong v0_wrongAt v0_globals c1 c2 c3 c4) H → va_D A (wX11_takeVars h0 h1 h2 h3 h4 kc1 kc2 kc3 kc4 V0 v0_textSize v0_from v0_to v0_token v0_name v0_wrong v0_wrongAt v0_globals c1 c2 c3 c4) → va_S A s.heap H locs → lv_has ls 5 [(0, .ref h0), (1, .int y1), (2, .int y2)] → k2 y1 y2 v0_from v0_to v0_token v0_name v0_wrong v0_wrongAt v0_globals c1 c2 c3 = some o → G 0 0 H locs (F0 m 2 ls [])), ∀ (y1 : Int32) (y3 : Int32) (v0_from : Int32) (v0_to : Int32) (v0_token : Int32) (v0_name : Int64) (v0_wrong : Int32) (v0_wrongAt : Int32) (v0_globals : Int32) (c1 : (Nat → Int64)) (c2 : (Nat → Int32)) (c3 : (Nat → Int64)) (H : Heap) (locs : List Loc) (ls : Array Slot), va_P (dC, dI) vwCl (wX11_takeVars h0 h1 h2 h3 h4 kc1 kc2 kc3 kc4 V0 v0_textSize v0_from v0_to v0_token v0_name v0_wrong v0_wrongAt v0_globals c1 c2 c3 c4) H → va_D A (wX11_takeVars h0 h1 h2 h3 h4 kc1 kc2 kc3 kc4 V0 v0_textSize v0_from v0_to v0_token v0_name v0_wrong v0_wrongAt v0_globals c1 c2 c3 c4) → va_S A s.heap H locs → lv_has ls 5 [(0, .ref h0), (1, .int y1), (3, .int y3)] → fX11_takeVars_p121 v0_textSize c4 k2 y1 y3 v0_from v0_to v0_token v0_name v0_wrong v0_wrongAt v0_globals c1 c2 c3 = some o → G 0 0 H locs (F0 m 121 ls []) := by
    intro k2 hk2 y1 y3 v0_from v0_to v0_token v0_name v0_wrong v0_wrongAt v0_globals c1 c2 c3 H locs ls hP hD hS hl hf
    refine (hG _ _ _ _ _).mpr ?_
    unfold fX11_takeVars_p121 at hf
    refine lv_iload_n hx hb dX11_takeVars_121 rfl (lv_at hl 2 rfl) ?_
    refine lv_iconst (v := (-1)) hx hb dX11_takeVars_122 (by decide +kernel) ?_
    refine lv_icmp_ne (tgt := 152) hx hb dX11_takeVars_123 (by decide) (fun cq19 => ?_) (fun cq19 => ?_)
    · replace hf := if_no hf cq19
      exact (hG _ _ _ _ _).mp (J152 v0_from v0_to v0_token v0_name v0_wrong v0_wrongAt v0_globals c1 c2 c3 H locs ls (hP.sub [0, 1, 2, 3, 4] rfl) (hD.sub [0, 1, 2, 3, 4] (by decide) rfl) hS (lv_sub hl [0] rfl) hf)
    · replace hf := if_at hf cq19
      refine lv_iload_n hx hb dX11_takeVars_126 rfl (lv_at hl 1 rfl) ?_
      refine lv_iconst (v := (-1)) hx hb dX11_takeVars_127 (by decide +kernel) ?_
      refine lv_icmp_ne (tgt := 142) hx hb dX11_takeVars_128 (by decide) (fun cq20 => ?_) (fun cq20 => ?_)
      · replace hf := if_no hf cq20
        refine lv_aload_n hx hb dX11_takeVars_142 rfl (lv_at hl 0 rfl) ?_
        refine va_get (D := (dC, dI)) (ci := 11) (v := .ref h2) (C := RX11) (T := TX11) (N := 71) hx hb hts inlX11 hown hK hP 0 rfl rfl 33 (by decide) w2_ (fun _ h9 => h9) rfl dX11_takeVars_143 ?_
        refine lv_iload_n hx hb dX11_takeVars_146 rfl (lv_at hl 1 rfl) ?_
        have b21 := bd_in hf
        replace hf := bd_k hf
        refine va_iald hx hb hK hP 2 1 rfl rfl b21 dX11_takeVars_147 ?_
        refine lv_topi (fun x22 e22 => ?_)
        replace hf := nm_at hf e22
        refine lv_iconst (v := 2) hx hb dX11_takeVars_148 (by decide +kernel) ?_
        refine lv_icmp_ne (tgt := 162) hx hb dX11_takeVars_149 (by decide) (fun cq23 => ?_) (fun cq23 => ?_)
        · replace hf := if_no hf cq23
          exact (hG _ _ _ _ _).mp (J162 k2 hk2 y1 v0_from v0_to v0_token v0_name v0_wrong v0_wrongAt v0_globals c1 c2 c3 H locs ls (hP.sub [0, 1, 2, 3, 4] rfl) (hD.sub [0, 1, 2, 3, 4] (by decide) rfl) hS (lv_sub hl [0, 1] rfl) hf)
        · replace hf := if_at hf cq23
          exact (hG _ _ _ _ _).mp (J152 v0_from v0_to v0_token v0_name v0_wrong v0_wrongAt v0_globals c1 c2 c3 H locs ls (hP.sub [0, 1, 2, 3, 4] rfl) (hD.sub [0, 1, 2, 3, 4] (by decide) rfl) hS (lv_sub hl [0] rfl) hf)
      · replace hf := if_at hf cq20
        refine lv_aload_n hx hb dX11_takeVars_131 rfl (lv_at hl 0 rfl) ?_
        refine va_get (D := (dC, dI)) (ci := 11) (v := .int v0_globals) (C := RX11) (T := TX11) (N := 71) hx hb hts inlX11 hown hK hP 0 rfl rfl 28 (by decide) w5_ (fun _ h9 => h9) rfl dX11_takeVars_132 ?_
        refine lv_iconst (v := 3) hx hb dX11_takeVars_135 (by decide +kernel) ?_
        refine lv_icmp_ne (tgt := 162) hx hb dX11_takeVars_136 (by decide) (fun cq24 => ?_) (fun cq24 => ?_)
        · replace hf := if_no hf cq24
          exact (hG _ _ _ _ _).mp (J162 k2 hk2 y1 v0_from v0_to v0_token v0_name v0_wrong v0_wrongAt v0_globals c1 c2 c3 H locs ls (hP.sub [0, 1, 2, 3, 4] rfl) (hD.sub [0, 1, 2, 3, 4] (by decide) rfl) hS (lv_sub hl [0, 1] rfl) hf)
        · replace hf := if_at hf cq24
          refine lv_goto (tgt := 152) hx hb dX11_takeVars_139 (by decide) ?_
          exact (hG _ _ _ _ _).mp (J152 v0_from v0_to v0_token v0_name v0_wrong v0_wrongAt v0_globals c1 c2 c3 H locs ls (hP.sub [0, 1, 2, 3, 4] rfl) (hD.sub [0, 1, 2, 3, 4] (by decide) rfl) hS (lv_sub hl [0] rfl) hf)
  have J114 : ∀ (k2 : Int32 → Int32 → Int32 → Int32 → Int32 → Int64 → Int32 → Int32 → Int32 → (Nat → Int64) → (Nat → Int32) → (Nat → Int64) → Option (Int32 × Int32 × Int32 × Int32 × Int64 × Int32 × Int32 × Int32 × (Nat → Int64) × (Nat → Int32) × (Nat → Int64))) (hk2 : ∀ (y1 : Int32) (y2 : Int32) (v0_from : Int32) (v0_to : Int32) (v0_token : Int32) (v0_name : Int64) (v0_wrong : Int32) (v0_wrongAt : Int32) (v0_globals : Int32) (c1 : (Nat → Int64)) (c2 : (Nat → Int32)) (c3 : (Nat → Int64)) (H : Heap) (locs : List Loc) (ls : Array Slot), va_P (dC, dI) vwCl (wX11_takeVars h0 h1 h2 h3 h4 kc1 kc2 kc3 kc4 V0 v0_textSize v0_from v0_to v0_token v0_name v0_wrong v0_wrongAt v0_globals c1 c2 c3 c4) H → va_D A (wX11_takeVars h0 h1 h2 h3 h4 kc1 kc2 kc3 kc4 V0 v0_textSize v0_from v0_to v0_token v0_name v0_wrong v0_wrongAt v0_globals c1 c2 c3 c4) → va_S A s.heap H locs → lv_has ls 5 [(0, .ref h0), (1, .int y1), (2, .int y2)] → k2 y1 y2 v0_from v0_to v0_token v0_name v0_wrong v0_wrongAt v0_globals c1 c2 c3 = some o → G 0 0 H locs (F0 m 2 ls [])) (k73 : Int32 → Int32 → Int32 → Int32 → Int32 → Int32 → Int64 → Int32 → Int32 → Int32 → (Nat → Int64) → (Nat → Int32) → (Nat → Int64) → Option (Int32 × Int32 × Int32 × Int32 × Int64 × Int32 × Int32 × Int32 × (Nat → Int64) × (Nat → Int32) × (Nat → Int64))) (hk73 : ∀ (y1 : Int32) (y3 : Int32) (y4 : Int32) (v0_from : Int32) (v0_to : Int32) (v0_token : Int32) (v0_name : Int64) (v0_wrong : Int32) (v0_wrongAt : Int32) (v0_globals : Int32) (c1 : (Nat → Int64)) (c2 : (Nat → Int32)) (c3 : (Nat → Int64)) (H : Heap) (locs : List Loc) (ls : Array Slot), va_P (dC, dI) vwCl (wX11_takeVars h0 h1 h2 h3 h4 kc1 kc2 kc3 kc4 V0 v0_textSize v0_from v0_to v0_token v0_name v0_wrong v0_wrongAt v0_globals c1 c2 c3 c4) H → va_D A (wX11_takeVars h0 h1 h2 h3 h4 kc1 kc2 kc3 kc4 V0 v0_textSize v0_from v0_to v0_token v0_name v0_wrong v0_wrongAt v0_globals c1 c2 c3 c4) → va_S A s.heap H locs → lv_has ls 5 [(0, .ref h0), (1, .int y1), (3, .int y3), (4, .int y4)] → k73 y1 y3 y4 v0_from v0_to v0_token v0_name v0_wrong v0_wrongAt v0_globals c1 c2 c3 = some o → G 0 0 H locs (F0 m 73 ls [])), ∀ (y1 : Int32) (y4 : Int32) (z0 : Int32) (v0_from : Int32) (v0_to : Int32) (v0_token : Int32) (v0_name : Int64) (v0_wrong : Int32) (v0_wrongAt : Int32) (v0_globals : Int32) (c1 : (Nat → Int64)) (c2 : (Nat → Int32)) (c3 : (Nat → Int64)) (H : Heap) (locs : List Loc) (ls : Array Slot), va_P (dC, dI) vwCl (wX11_takeVars h0 h1 h2 h3 h4 kc1 kc2 kc3 kc4 V0 v0_textSize v0_from v0_to v0_token v0_name v0_wrong v0_wrongAt v0_globals c1 c2 c3 c4) H → va_D A (wX11_takeVars h0 h1 h2 h3 h4 kc1 kc2 kc3 kc4 V0 v0_textSize v0_from v0_to v0_token v0_name v0_wrong v0_wrongAt v0_globals c1 c2 c3 c4) → va_S A s.heap H locs → lv_has ls 5 [(0, .ref h0), (1, .int y1), (4, .int y4)] → fX11_takeVars_p114 v0_textSize c4 k2 k73 y1 y4 z0 v0_from v0_to v0_token v0_name v0_wrong v0_wrongAt v0_globals c1 c2 c3 = some o → G 0 0 H locs (F0 m 114 ls [.int z0]) := by
    intro k2 hk2 k73 hk73 y1 y4 z0 v0_from v0_to v0_token v0_name v0_wrong v0_wrongAt v0_globals c1 c2 c3 H locs ls hP hD hS hl hf
    refine (hG _ _ _ _ _).mpr ?_
    unfold fX11_takeVars_p114 at hf
    refine lv_istore_n (lv' := [(3, .int z0), (0, .ref h0), (1, .int y1), (4, .int y4)]) hx hb dX11_takeVars_114 rfl hl (by decide) rfl (fun ls hl => ?_)
    obtain ⟨x25, e25⟩ : ∃ y : Int32, y = y4 + 1 := ⟨_, rfl⟩
    replace hf := nm_at hf e25
    refine lv_iinc (v := x25) (lv' := [(4, .int x25), (3, .int z0), (0, .ref h0), (1, .int y1)]) hx hb dX11_takeVars_115 hl (k := 3) rfl (by rw [e25]; rfl) (by decide) rfl (fun ls hl => ?_)
    refine lv_goto (tgt := 73) hx hb dX11_takeVars_118 (by decide) ?_
    exact (hG _ _ _ _ _).mp (hk73 y1 z0 x25 v0_from v0_to v0_token v0_name v0_wrong v0_wrongAt v0_globals c1 c2 c3 H locs ls (hP.sub [0, 1, 2, 3, 4] rfl) (hD.sub [0, 1, 2, 3, 4] (by decide) rfl) hS (lv_sub hl [2, 3, 1, 0] rfl) hf)
  have B73 : ∀ (k2 : Int32 → Int32 → Int32 → Int32 → Int32 → Int64 → Int32 → Int32 → Int32 → (Nat → Int64) → (Nat → Int32) → (Nat → Int64) → Option (Int32 × Int32 × Int32 × Int32 × Int64 × Int32 × Int32 × Int32 × (Nat → Int64) × (Nat → Int32) × (Nat → Int64))) (hk2 : ∀ (y1 : Int32) (y2 : Int32) (v0_from : Int32) (v0_to : Int32) (v0_token : Int32) (v0_name : Int64) (v0_wrong : Int32) (v0_wrongAt : Int32) (v0_globals : Int32) (c1 : (Nat → Int64)) (c2 : (Nat → Int32)) (c3 : (Nat → Int64)) (H : Heap) (locs : List Loc) (ls : Array Slot), va_P (dC, dI) vwCl (wX11_takeVars h0 h1 h2 h3 h4 kc1 kc2 kc3 kc4 V0 v0_textSize v0_from v0_to v0_token v0_name v0_wrong v0_wrongAt v0_globals c1 c2 c3 c4) H → va_D A (wX11_takeVars h0 h1 h2 h3 h4 kc1 kc2 kc3 kc4 V0 v0_textSize v0_from v0_to v0_token v0_name v0_wrong v0_wrongAt v0_globals c1 c2 c3 c4) → va_S A s.heap H locs → lv_has ls 5 [(0, .ref h0), (1, .int y1), (2, .int y2)] → k2 y1 y2 v0_from v0_to v0_token v0_name v0_wrong v0_wrongAt v0_globals c1 c2 c3 = some o → G 0 0 H locs (F0 m 2 ls [])) (k73 : Int32 → Int32 → Int32 → Int32 → Int32 → Int32 → Int64 → Int32 → Int32 → Int32 → (Nat → Int64) → (Nat → Int32) → (Nat → Int64) → Option (Int32 × Int32 × Int32 × Int32 × Int64 × Int32 × Int32 × Int32 × (Nat → Int64) × (Nat → Int32) × (Nat → Int64))) (hk73 : ∀ (y1 : Int32) (y3 : Int32) (y4 : Int32) (v0_from : Int32) (v0_to : Int32) (v0_token : Int32) (v0_name : Int64) (v0_wrong : Int32) (v0_wrongAt : Int32) (v0_globals : Int32) (c1 : (Nat → Int64)) (c2 : (Nat → Int32)) (c3 : (Nat → Int64)) (H : Heap) (locs : List Loc) (ls : Array Slot), va_P (dC, dI) vwCl (wX11_takeVars h0 h1 h2 h3 h4 kc1 kc2 kc3 kc4 V0 v0_textSize v0_from v0_to v0_token v0_name v0_wrong v0_wrongAt v0_globals c1 c2 c3 c4) H → va_D A (wX11_takeVars h0 h1 h2 h3 h4 kc1 kc2 kc3 kc4 V0 v0_textSize v0_from v0_to v0_token v0_name v0_wrong v0_wrongAt v0_globals c1 c2 c3 c4) → va_S A s.heap H locs → lv_has ls 5 [(0, .ref h0), (1, .int y1), (3, .int y3), (4, .int y4)] → k73 y1 y3 y4 v0_from v0_to v0_token v0_name v0_wrong v0_wrongAt v0_globals c1 c2 c3 = some o → G 0 0 H locs (F0 m 73 ls [])), ∀ (y1 : Int32) (y3 : Int32) (y4 : Int32) (v0_from : Int32) (v0_to : Int32) (v0_token : Int32) (v0_name : Int64) (v0_wrong : Int32) (v0_wrongAt : Int32) (v0_globals : Int32) (c1 : (Nat → Int64)) (c2 : (Nat → Int32)) (c3 : (Nat → Int64)) (H : Heap) (locs : List Loc) (ls : Array Slot), va_P (dC, dI) vwCl (wX11_takeVars h0 h1 h2 h3 h4 kc1 kc2 kc3 kc4 V0 v0_textSize v0_from v0_to v0_token v0_name v0_wrong v0_wrongAt v0_globals c1 c2 c3 c4) H → va_D A (wX11_takeVars h0 h1 h2 h3 h4 kc1 kc2 kc3 kc4 V0 v0_textSize v0_from v0_to v0_token v0_name v0_wrong v0_wrongAt v0_globals c1 c2 c3 c4) → va_S A s.heap H locs → lv_has ls 5 [(0, .ref h0), (1, .int y1), (3, .int y3), (4, .int y4)] → fX11_takeVars_b73 v0_textSize c4 k2 k73 y1 y3 y4 v0_from v0_to v0_token v0_name v0_wrong v0_wrongAt v0_globals c1 c2 c3 = some o → G 0 0 H locs (F0 m 73 ls []) := by
    intro k2 hk2 k73 hk73 y1 y3 y4 v0_from v0_to v0_token v0_name v0_wrong v0_wrongAt v0_globals c1 c2 c3 H locs ls hP hD hS hl hf
    refine (hG _ _ _ _ _).mpr ?_
    unfold fX11_takeVars_b73 at hf
    refine lv_iload_n hx hb dX11_takeVars_73 rfl (lv_at hl 1 rfl) ?_
    refine lv_iconst (v := (-1)) hx hb dX11_takeVars_74 (by decide +kernel) ?_
    refine lv_icmp_eq (tgt := 121) hx hb dX11_takeVars_75 (by decide) (fun cq26 => ?_) (fun cq26 => ?_)
    · replace hf := if_at hf cq26
      exact (hG _ _ _ _ _).mp (J121 k2 hk2 y1 y3 v0_from v0_to v0_token v0_name v0_wrong v0_wrongAt v0_globals c1 c2 c3 H locs ls (hP.sub [0, 1, 2, 3, 4] rfl) (hD.sub [0, 1, 2, 3, 4] (by decide) rfl) hS (lv_sub hl [0, 1, 2] rfl) hf)
    · replace hf := if_no hf cq26
      refine lv_iload hx hb dX11_takeVars_78 (lv_at hl 3 rfl) ?_
      refine lv_aload_n hx hb dX11_takeVars_80 rfl (lv_at hl 0 rfl) ?_
      refine va_get (D := (dC, dI)) (ci := 11) (v := .ref h2) (C := RX11) (T := TX11) (N := 71) hx hb hts inlX11 hown hK hP 0 rfl rfl 33 (by decide) w2_ (fun _ h9 => h9) rfl dX11_takeVars_81 ?_
      refine lv_iload_n hx hb dX11_takeVars_84 rfl (lv_at hl 1 rfl) ?_
      have b27 := bd_in hf
      replace hf := bd_k hf
      refine va_iald hx hb hK hP 2 1 rfl rfl b27 dX11_takeVars_85 ?_
      refine lv_topi (fun x28 e28 => ?_)
      replace hf := nm_at hf e28
      refine lv_icmp_ge (tgt := 121) hx hb dX11_takeVars_86 (by decide) (fun cq29 => ?_) (fun cq29 => ?_)
      · replace hf := if_at hf cq29
        exact (hG _ _ _ _ _).mp (J121 k2 hk2 y1 y3 v0_from v0_to v0_token v0_name v0_wrong v0_wrongAt v0_globals c1 c2 c3 H locs ls (hP.sub [0, 1, 2, 3, 4] rfl) (hD.sub [0, 1, 2, 3, 4] (by decide) rfl) hS (lv_sub hl [0, 1, 2] rfl) hf)
      · replace hf := if_no hf cq29
        refine lv_aload_n hx hb dX11_takeVars_89 rfl (lv_at hl 0 rfl) ?_
        refine va_get (D := (dC, dI)) (ci := 11) (v := .ref h3) (C := RX11) (T := TX11) (N := 71) hx hb hts inlX11 hown hK hP 0 rfl rfl 32 (by decide) w1_ (fun _ h9 => h9) rfl dX11_takeVars_90 ?_
        refine lv_iconst (v := 2) hx hb dX11_takeVars_93 (by decide +kernel) ?_
        refine lv_iload_n hx hb dX11_takeVars_94 rfl (lv_at hl 1 rfl) ?_
        refine lv_imul hx hb dX11_takeVars_95 ?_
        refine lv_topi (fun x30 e30 => ?_)
        replace hf := nm_at hf e30
        refine lv_iload hx hb dX11_takeVars_96 (lv_at hl 3 rfl) ?_
        refine lv_iadd hx hb dX11_takeVars_98 ?_
        refine lv_topi (fun x31 e31 => ?_)
        replace hf := nm_at hf e31
        have b32 := bd_in hf
        replace hf := bd_k hf
        refine va_lald hx hb hK hP 3 2 rfl rfl b32 dX11_takeVars_99 ?_
        refine lv_topl (fun x33 e33 => ?_)
        replace hf := nm_at hf e33
        refine lv_aload_n hx hb dX11_takeVars_100 rfl (lv_at hl 0 rfl) ?_
        refine va_get (D := (dC, dI)) (ci := 11) (v := .long v0_name) (C := RX11) (T := TX11) (N := 71) hx hb hts inlX11 hown hK hP 0 rfl rfl 24 (by decide) w3_ (fun _ h9 => h9) rfl dX11_takeVars_101 ?_
        refine W.lcmp hx hb dX11_takeVars_104 ?_
        refine lv_topi (fun x34 e34 => ?_)
        replace hf := nm_at hf e34
        refine lv_if_ne (tgt := 113) hx hb dX11_takeVars_105 (by decide) (fun cq35 => ?_) (fun cq35 => ?_)
        · replace hf := if_no hf cq35
          refine lv_iload_n hx hb dX11_takeVars_113 rfl (lv_at hl 2 rfl) ?_
          exact (hG _ _ _ _ _).mp (J114 k2 hk2 k73 hk73 y1 y4 y3 v0_from v0_to v0_token v0_name v0_wrong v0_wrongAt v0_globals c1 c2 c3 H locs ls (hP.sub [0, 1, 2, 3, 4] rfl) (hD.sub [0, 1, 2, 3, 4] (by decide) rfl) hS (lv_sub hl [0, 1, 3] rfl) hf)
        · replace hf := if_at hf cq35
          refine lv_iload hx hb dX11_takeVars_108 (lv_at hl 3 rfl) ?_
          refine lv_goto (tgt := 114) hx hb dX11_takeVars_110 (by decide) ?_
          exact (hG _ _ _ _ _).mp (J114 k2 hk2 k73 hk73 y1 y4 y4 v0_from v0_to v0_token v0_name v0_wrong v0_wrongAt v0_globals c1 c2 c3 H locs ls (hP.sub [0, 1, 2, 3, 4] rfl) (hD.sub [0, 1, 2, 3, 4] (by decide) rfl) hS (lv_sub hl [0, 1, 3] rfl) hf)
  have L73 : ∀ (k2 : Int32 → Int32 → Int32 → Int32 → Int32 → Int64 → Int32 → Int32 → Int32 → (Nat → Int64) → (Nat → Int32) → (Nat → Int64) → Option (Int32 × Int32 × Int32 × Int32 × Int64 × Int32 × Int32 × Int32 × (Nat → Int64) × (Nat → Int32) × (Nat → Int64))) (hk2 : ∀ (y1 : Int32) (y2 : Int32) (v0_from : Int32) (v0_to : Int32) (v0_token : Int32) (v0_name : Int64) (v0_wrong : Int32) (v0_wrongAt : Int32) (v0_globals : Int32) (c1 : (Nat → Int64)) (c2 : (Nat → Int32)) (c3 : (Nat → Int64)) (H : Heap) (locs : List Loc) (ls : Array Slot), va_P (dC, dI) vwCl (wX11_takeVars h0 h1 h2 h3 h4 kc1 kc2 kc3 kc4 V0 v0_textSize v0_from v0_to v0_token v0_name v0_wrong v0_wrongAt v0_globals c1 c2 c3 c4) H → va_D A (wX11_takeVars h0 h1 h2 h3 h4 kc1 kc2 kc3 kc4 V0 v0_textSize v0_from v0_to v0_token v0_name v0_wrong v0_wrongAt v0_globals c1 c2 c3 c4) → va_S A s.heap H locs → lv_has ls 5 [(0, .ref h0), (1, .int y1), (2, .int y2)] → k2 y1 y2 v0_from v0_to v0_token v0_name v0_wrong v0_wrongAt v0_globals c1 c2 c3 = some o → G 0 0 H locs (F0 m 2 ls [])) (n : Nat), ∀ (y1 : Int32) (y3 : Int32) (y4 : Int32) (v0_from : Int32) (v0_to : Int32) (v0_token : Int32) (v0_name : Int64) (v0_wrong : Int32) (v0_wrongAt : Int32) (v0_globals : Int32) (c1 : (Nat → Int64)) (c2 : (Nat → Int32)) (c3 : (Nat → Int64)) (H : Heap) (locs : List Loc) (ls : Array Slot), va_P (dC, dI) vwCl (wX11_takeVars h0 h1 h2 h3 h4 kc1 kc2 kc3 kc4 V0 v0_textSize v0_from v0_to v0_token v0_name v0_wrong v0_wrongAt v0_globals c1 c2 c3 c4) H → va_D A (wX11_takeVars h0 h1 h2 h3 h4 kc1 kc2 kc3 kc4 V0 v0_textSize v0_from v0_to v0_token v0_name v0_wrong v0_wrongAt v0_globals c1 c2 c3 c4) → va_S A s.heap H locs → lv_has ls 5 [(0, .ref h0), (1, .int y1), (3, .int y3), (4, .int y4)] → fX11_takeVars_l73 v0_textSize c4 k2 n y1 y3 y4 v0_from v0_to v0_token v0_name v0_wrong v0_wrongAt v0_globals c1 c2 c3 = some o → G 0 0 H locs (F0 m 73 ls []) := by
    intro k2 hk2 n
    induction n with
    | zero => intro y1 y3 y4 v0_from v0_to v0_token v0_name v0_wrong v0_wrongAt v0_globals c1 c2 c3 H locs ls _ _ _ _ hf; cases hf
    | succ n ih => exact B73 k2 hk2 _ ih
  have J63 : ∀ (k2 : Int32 → Int32 → Int32 → Int32 → Int32 → Int64 → Int32 → Int32 → Int32 → (Nat → Int64) → (Nat → Int32) → (Nat → Int64) → Option (Int32 × Int32 × Int32 × Int32 × Int64 × Int32 × Int32 × Int32 × (Nat → Int64) × (Nat → Int32) × (Nat → Int64))) (hk2 : ∀ (y1 : Int32) (y2 : Int32) (v0_from : Int32) (v0_to : Int32) (v0_token : Int32) (v0_name : Int64) (v0_wrong : Int32) (v0_wrongAt : Int32) (v0_globals : Int32) (c1 : (Nat → Int64)) (c2 : (Nat → Int32)) (c3 : (Nat → Int64)) (H : Heap) (locs : List Loc) (ls : Array Slot), va_P (dC, dI) vwCl (wX11_takeVars h0 h1 h2 h3 h4 kc1 kc2 kc3 kc4 V0 v0_textSize v0_from v0_to v0_token v0_name v0_wrong v0_wrongAt v0_globals c1 c2 c3 c4) H → va_D A (wX11_takeVars h0 h1 h2 h3 h4 kc1 kc2 kc3 kc4 V0 v0_textSize v0_from v0_to v0_token v0_name v0_wrong v0_wrongAt v0_globals c1 c2 c3 c4) → va_S A s.heap H locs → lv_has ls 5 [(0, .ref h0), (1, .int y1), (2, .int y2)] → k2 y1 y2 v0_from v0_to v0_token v0_name v0_wrong v0_wrongAt v0_globals c1 c2 c3 = some o → G 0 0 H locs (F0 m 2 ls [])) (k33 : Int32 → Int32 → Int32 → Int32 → Int32 → Int32 → Int64 → Int32 → Int32 → Int32 → (Nat → Int64) → (Nat → Int32) → (Nat → Int64) → Option (Int32 × Int32 × Int32 × Int32 × Int64 × Int32 × Int32 × Int32 × (Nat → Int64) × (Nat → Int32) × (Nat → Int64))) (hk33 : ∀ (y1 : Int32) (y3 : Int32) (y4 : Int32) (v0_from : Int32) (v0_to : Int32) (v0_token : Int32) (v0_name : Int64) (v0_wrong : Int32) (v0_wrongAt : Int32) (v0_globals : Int32) (c1 : (Nat → Int64)) (c2 : (Nat → Int32)) (c3 : (Nat → Int64)) (H : Heap) (locs : List Loc) (ls : Array Slot), va_P (dC, dI) vwCl (wX11_takeVars h0 h1 h2 h3 h4 kc1 kc2 kc3 kc4 V0 v0_textSize v0_from v0_to v0_token v0_name v0_wrong v0_wrongAt v0_globals c1 c2 c3 c4) H → va_D A (wX11_takeVars h0 h1 h2 h3 h4 kc1 kc2 kc3 kc4 V0 v0_textSize v0_from v0_to v0_token v0_name v0_wrong v0_wrongAt v0_globals c1 c2 c3 c4) → va_S A s.heap H locs → lv_has ls 5 [(0, .ref h0), (1, .int y1), (3, .int y3), (4, .int y4)] → k33 y1 y3 y4 v0_from v0_to v0_token v0_name v0_wrong v0_wrongAt v0_globals c1 c2 c3 = some o → G 0 0 H locs (F0 m 33 ls [])), ∀ (y1 : Int32) (y4 : Int32) (z0 : Int32) (v0_from : Int32) (v0_to : Int32) (v0_token : Int32) (v0_name : Int64) (v0_wrong : Int32) (v0_wrongAt : Int32) (v0_globals : Int32) (c1 : (Nat → Int64)) (c2 : (Nat → Int32)) (c3 : (Nat → Int64)) (H : Heap) (locs : List Loc) (ls : Array Slot), va_P (dC, dI) vwCl (wX11_takeVars h0 h1 h2 h3 h4 kc1 kc2 kc3 kc4 V0 v0_textSize v0_from v0_to v0_token v0_name v0_wrong v0_wrongAt v0_globals c1 c2 c3 c4) H → va_D A (wX11_takeVars h0 h1 h2 h3 h4 kc1 kc2 kc3 kc4 V0 v0_textSize v0_from v0_to v0_token v0_name v0_wrong v0_wrongAt v0_globals c1 c2 c3 c4) → va_S A s.heap H locs → lv_has ls 5 [(0, .ref h0), (1, .int y1), (4, .int y4)] → fX11_takeVars_p63 v0_textSize c4 k2 k33 y1 y4 z0 v0_from v0_to v0_token v0_name v0_wrong v0_wrongAt v0_globals c1 c2 c3 = some o → G 0 0 H locs (F0 m 63 ls [.int z0]) := by
    intro k2 hk2 k33 hk33 y1 y4 z0 v0_from v0_to v0_token v0_name v0_wrong v0_wrongAt v0_globals c1 c2 c3 H locs ls hP hD hS hl hf
    refine (hG _ _ _ _ _).mpr ?_
    unfold fX11_takeVars_p63 at hf
    refine lv_istore_n (lv' := [(3, .int z0), (0, .ref h0), (1, .int y1), (4, .int y4)]) hx hb dX11_takeVars_63 rfl hl (by decide) rfl (fun ls hl => ?_)
    obtain ⟨x36, e36⟩ : ∃ y : Int32, y = y4 + 1 := ⟨_, rfl⟩
    replace hf := nm_at hf e36
    refine lv_iinc (v := x36) (lv' := [(4, .int x36), (3, .int z0), (0, .ref h0), (1, .int y1)]) hx hb dX11_takeVars_64 hl (k := 3) rfl (by rw [e36]; rfl) (by decide) rfl (fun ls hl => ?_)
    refine lv_goto (tgt := 33) hx hb dX11_takeVars_67 (by decide) ?_
    exact (hG _ _ _ _ _).mp (hk33 y1 z0 x36 v0_from v0_to v0_token v0_name v0_wrong v0_wrongAt v0_globals c1 c2 c3 H locs ls (hP.sub [0, 1, 2, 3, 4] rfl) (hD.sub [0, 1, 2, 3, 4] (by decide) rfl) hS (lv_sub hl [2, 3, 1, 0] rfl) hf)
  have B33 : ∀ (k2 : Int32 → Int32 → Int32 → Int32 → Int32 → Int64 → Int32 → Int32 → Int32 → (Nat → Int64) → (Nat → Int32) → (Nat → Int64) → Option (Int32 × Int32 × Int32 × Int32 × Int64 × Int32 × Int32 × Int32 × (Nat → Int64) × (Nat → Int32) × (Nat → Int64))) (hk2 : ∀ (y1 : Int32) (y2 : Int32) (v0_from : Int32) (v0_to : Int32) (v0_token : Int32) (v0_name : Int64) (v0_wrong : Int32) (v0_wrongAt : Int32) (v0_globals : Int32) (c1 : (Nat → Int64)) (c2 : (Nat → Int32)) (c3 : (Nat → Int64)) (H : Heap) (locs : List Loc) (ls : Array Slot), va_P (dC, dI) vwCl (wX11_takeVars h0 h1 h2 h3 h4 kc1 kc2 kc3 kc4 V0 v0_textSize v0_from v0_to v0_token v0_name v0_wrong v0_wrongAt v0_globals c1 c2 c3 c4) H → va_D A (wX11_takeVars h0 h1 h2 h3 h4 kc1 kc2 kc3 kc4 V0 v0_textSize v0_from v0_to v0_token v0_name v0_wrong v0_wrongAt v0_globals c1 c2 c3 c4) → va_S A s.heap H locs → lv_has ls 5 [(0, .ref h0), (1, .int y1), (2, .int y2)] → k2 y1 y2 v0_from v0_to v0_token v0_name v0_wrong v0_wrongAt v0_globals c1 c2 c3 = some o → G 0 0 H locs (F0 m 2 ls [])) (k33 : Int32 → Int32 → Int32 → Int32 → Int32 → Int32 → Int64 → Int32 → Int32 → Int32 → (Nat → Int64) → (Nat → Int32) → (Nat → Int64) → Option (Int32 × Int32 × Int32 × Int32 × Int64 × Int32 × Int32 × Int32 × (Nat → Int64) × (Nat → Int32) × (Nat → Int64))) (hk33 : ∀ (y1 : Int32) (y3 : Int32) (y4 : Int32) (v0_from : Int32) (v0_to : Int32) (v0_token : Int32) (v0_name : Int64) (v0_wrong : Int32) (v0_wrongAt : Int32) (v0_globals : Int32) (c1 : (Nat → Int64)) (c2 : (Nat → Int32)) (c3 : (Nat → Int64)) (H : Heap) (locs : List Loc) (ls : Array Slot), va_P (dC, dI) vwCl (wX11_takeVars h0 h1 h2 h3 h4 kc1 kc2 kc3 kc4 V0 v0_textSize v0_from v0_to v0_token v0_name v0_wrong v0_wrongAt v0_globals c1 c2 c3 c4) H → va_D A (wX11_takeVars h0 h1 h2 h3 h4 kc1 kc2 kc3 kc4 V0 v0_textSize v0_from v0_to v0_token v0_name v0_wrong v0_wrongAt v0_globals c1 c2 c3 c4) → va_S A s.heap H locs → lv_has ls 5 [(0, .ref h0), (1, .int y1), (3, .int y3), (4, .int y4)] → k33 y1 y3 y4 v0_from v0_to v0_token v0_name v0_wrong v0_wrongAt v0_globals c1 c2 c3 = some o → G 0 0 H locs (F0 m 33 ls [])), ∀ (y1 : Int32) (y3 : Int32) (y4 : Int32) (v0_from : Int32) (v0_to : Int32) (v0_token : Int32) (v0_name : Int64) (v0_wrong : Int32) (v0_wrongAt : Int32) (v0_globals : Int32) (c1 : (Nat → Int64)) (c2 : (Nat → Int32)) (c3 : (Nat → Int64)) (H : Heap) (locs : List Loc) (ls : Array Slot), va_P (dC, dI) vwCl (wX11_takeVars h0 h1 h2 h3 h4 kc1 kc2 kc3 kc4 V0 v0_textSize v0_from v0_to v0_token v0_name v0_wrong v0_wrongAt v0_globals c1 c2 c3 c4) H → va_D A (wX11_takeVars h0 h1 h2 h3 h4 kc1 kc2 kc3 kc4 V0 v0_textSize v0_from v0_to v0_token v0_name v0_wrong v0_wrongAt v0_globals c1 c2 c3 c4) → va_S A s.heap H locs → lv_has ls 5 [(0, .ref h0), (1, .int y1), (3, .int y3), (4, .int y4)] → fX11_takeVars_b33 v0_textSize c4 k2 k33 y1 y3 y4 v0_from v0_to v0_token v0_name v0_wrong v0_wrongAt v0_globals c1 c2 c3 = some o → G 0 0 H locs (F0 m 33 ls []) := by
    intro k2 hk2 k33 hk33 y1 y3 y4 v0_from v0_to v0_token v0_name v0_wrong v0_wrongAt v0_globals c1 c2 c3 H locs ls hP hD hS hl hf
    refine (hG _ _ _ _ _).mpr ?_
    unfold fX11_takeVars_b33 at hf
    refine lv_iload hx hb dX11_takeVars_33 (lv_at hl 3 rfl) ?_
    refine lv_aload_n hx hb dX11_takeVars_35 rfl (lv_at hl 0 rfl) ?_
    refine va_get (D := (dC, dI)) (ci := 11) (v := .int v0_globals) (C := RX11) (T := TX11) (N := 71) hx hb hts inlX11 hown hK hP 0 rfl rfl 28 (by decide) w5_ (fun _ h9 => h9) rfl dX11_takeVars_36 ?_
    refine lv_icmp_ge (tgt := 70) hx hb dX11_takeVars_39 (by decide) (fun cq37 => ?_) (fun cq37 => ?_)
    · replace hf := if_at hf cq37
      refine lv_iconst (v := 0) hx hb dX11_takeVars_70 (by decide +kernel) ?_
      refine lv_istore (lv' := [(4, .int 0), (0, .ref h0), (1, .int y1), (3, .int y3)]) hx hb dX11_takeVars_71 hl (by decide) rfl (fun ls hl => ?_)
      exact (hG _ _ _ _ _).mp (L73 k2 hk2 FU y1 y3 0 v0_from v0_to v0_token v0_name v0_wrong v0_wrongAt v0_globals c1 c2 c3 H locs ls (hP.sub [0, 1, 2, 3, 4] rfl) (hD.sub [0, 1, 2, 3, 4] (by decide) rfl) hS (lv_sub hl [1, 2, 3, 0] rfl) hf)
    · replace hf := if_no hf cq37
      refine lv_aload_n hx hb dX11_takeVars_42 rfl (lv_at hl 0 rfl) ?_
      refine va_get (D := (dC, dI)) (ci := 11) (v := .ref h1) (C := RX11) (T := TX11) (N := 71) hx hb hts inlX11 hown hK hP 0 rfl rfl 31 (by decide) w4_ (fun _ h9 => h9) rfl dX11_takeVars_43 ?_
      refine lv_iload hx hb dX11_takeVars_46 (lv_at hl 3 rfl) ?_
      have b38 := bd_in hf
      replace hf := bd_k hf
      refine va_lald hx hb hK hP 1 0 rfl rfl b38 dX11_takeVars_48 ?_
      refine lv_topl (fun x39 e39 => ?_)
      replace hf := nm_at hf e39
      refine lv_aload_n hx hb dX11_takeVars_49 rfl (lv_at hl 0 rfl) ?_
      refine va_get (D := (dC, dI)) (ci := 11) (v := .long v0_name) (C := RX11) (T := TX11) (N := 71) hx hb hts inlX11 hown hK hP 0 rfl rfl 24 (by decide) w3_ (fun _ h9 => h9) rfl dX11_takeVars_50 ?_
      refine W.lcmp hx hb dX11_takeVars_53 ?_
      refine lv_topi (fun x40 e40 => ?_)
      replace hf := nm_at hf e40
      refine lv_if_ne (tgt := 62) hx hb dX11_takeVars_54 (by decide) (fun cq41 => ?_) (fun cq41 => ?_)
      · replace hf := if_no hf cq41
        refine lv_iload_n hx hb dX11_takeVars_62 rfl (lv_at hl 2 rfl) ?_
        exact (hG _ _ _ _ _).mp (J63 k2 hk2 k33 hk33 y1 y4 y3 v0_from v0_to v0_token v0_name v0_wrong v0_wrongAt v0_globals c1 c2 c3 H locs ls (hP.sub [0, 1, 2, 3, 4] rfl) (hD.sub [0, 1, 2, 3, 4] (by decide) rfl) hS (lv_sub hl [0, 1, 3] rfl) hf)
      · replace hf := if_at hf cq41
        refine lv_iload hx hb dX11_takeVars_57 (lv_at hl 3 rfl) ?_
        refine lv_goto (tgt := 63) hx hb dX11_takeVars_59 (by decide) ?_
        exact (hG _ _ _ _ _).mp (J63 k2 hk2 k33 hk33 y1 y4 y4 v0_from v0_to v0_token v0_name v0_wrong v0_wrongAt v0_globals c1 c2 c3 H locs ls (hP.sub [0, 1, 2, 3, 4] rfl) (hD.sub [0, 1, 2, 3, 4] (by decide) rfl) hS (lv_sub hl [0, 1, 3] rfl) hf)
  have L33 : ∀ (k2 : Int32 → Int32 → Int32 → Int32 → Int32 → Int64 → Int32 → Int32 → Int32 → (Nat → Int64) → (Nat → Int32) → (Nat → Int64) → Option (Int32 × Int32 × Int32 × Int32 × Int64 × Int32 × Int32 × Int32 × (Nat → Int64) × (Nat → Int32) × (Nat → Int64))) (hk2 : ∀ (y1 : Int32) (y2 : Int32) (v0_from : Int32) (v0_to : Int32) (v0_token : Int32) (v0_name : Int64) (v0_wrong : Int32) (v0_wrongAt : Int32) (v0_globals : Int32) (c1 : (Nat → Int64)) (c2 : (Nat → Int32)) (c3 : (Nat → Int64)) (H : Heap) (locs : List Loc) (ls : Array Slot), va_P (dC, dI) vwCl (wX11_takeVars h0 h1 h2 h3 h4 kc1 kc2 kc3 kc4 V0 v0_textSize v0_from v0_to v0_token v0_name v0_wrong v0_wrongAt v0_globals c1 c2 c3 c4) H → va_D A (wX11_takeVars h0 h1 h2 h3 h4 kc1 kc2 kc3 kc4 V0 v0_textSize v0_from v0_to v0_token v0_name v0_wrong v0_wrongAt v0_globals c1 c2 c3 c4) → va_S A s.heap H locs → lv_has ls 5 [(0, .ref h0), (1, .int y1), (2, .int y2)] → k2 y1 y2 v0_from v0_to v0_token v0_name v0_wrong v0_wrongAt v0_globals c1 c2 c3 = some o → G 0 0 H locs (F0 m 2 ls [])) (n : Nat), ∀ (y1 : Int32) (y3 : Int32) (y4 : Int32) (v0_from : Int32) (v0_to : Int32) (v0_token : Int32) (v0_name : Int64) (v0_wrong : Int32) (v0_wrongAt : Int32) (v0_globals : Int32) (c1 : (Nat → Int64)) (c2 : (Nat → Int32)) (c3 : (Nat → Int64)) (H : Heap) (locs : List Loc) (ls : Array Slot), va_P (dC, dI) vwCl (wX11_takeVars h0 h1 h2 h3 h4 kc1 kc2 kc3 kc4 V0 v0_textSize v0_from v0_to v0_token v0_name v0_wrong v0_wrongAt v0_globals c1 c2 c3 c4) H → va_D A (wX11_takeVars h0 h1 h2 h3 h4 kc1 kc2 kc3 kc4 V0 v0_textSize v0_from v0_to v0_token v0_name v0_wrong v0_wrongAt v0_globals c1 c2 c3 c4) → va_S A s.heap H locs → lv_has ls 5 [(0, .ref h0), (1, .int y1), (3, .int y3), (4, .int y4)] → fX11_takeVars_l33 v0_textSize c4 k2 n y1 y3 y4 v0_from v0_to v0_token v0_name v0_wrong v0_wrongAt v0_globals c1 c2 c3 = some o → G 0 0 H locs (F0 m 33 ls []) := by
    intro k2 hk2 n
    induction n with
    | zero => intro y1 y3 y4 v0_from v0_to v0_token v0_name v0_wrong v0_wrongAt v0_globals c1 c2 c3 H locs ls _ _ _ _ hf; cases hf
    | succ n ih => exact B33 k2 hk2 _ ih
  have J20 : ∀ (k2 : Int32 → Int32 → Int32 → Int32 → Int32 → Int64 → Int32 → Int32 → Int32 → (Nat → Int64) → (Nat → Int32) → (Nat → Int64) → Option (Int32 × Int32 × Int32 × Int32 × Int64 × Int32 × Int32 × Int32 × (Nat → Int64) × (Nat → Int32) × (Nat → Int64))) (hk2 : ∀ (y1 : Int32) (y2 : Int32) (v0_from : Int32) (v0_to : Int32) (v0_token : Int32) (v0_name : Int64) (v0_wrong : Int32) (v0_wrongAt : Int32) (v0_globals : Int32) (c1 : (Nat → Int64)) (c2 : (Nat → Int32)) (c3 : (Nat → Int64)) (H : Heap) (locs : List Loc) (ls : Array Slot), va_P (dC, dI) vwCl (wX11_takeVars h0 h1 h2 h3 h4 kc1 kc2 kc3 kc4 V0 v0_textSize v0_from v0_to v0_token v0_name v0_wrong v0_wrongAt v0_globals c1 c2 c3 c4) H → va_D A (wX11_takeVars h0 h1 h2 h3 h4 kc1 kc2 kc3 kc4 V0 v0_textSize v0_from v0_to v0_token v0_name v0_wrong v0_wrongAt v0_globals c1 c2 c3 c4) → va_S A s.heap H locs → lv_has ls 5 [(0, .ref h0), (1, .int y1), (2, .int y2)] → k2 y1 y2 v0_from v0_to v0_token v0_name v0_wrong v0_wrongAt v0_globals c1 c2 c3 = some o → G 0 0 H locs (F0 m 2 ls [])), ∀ (y1 : Int32) (z0 : Int32) (v0_from : Int32) (v0_to : Int32) (v0_token : Int32) (v0_name : Int64) (v0_wrong : Int32) (v0_wrongAt : Int32) (v0_globals : Int32) (c1 : (Nat → Int64)) (c2 : (Nat → Int32)) (c3 : (Nat → Int64)) (H : Heap) (locs : List Loc) (ls : Array Slot), va_P (dC, dI) vwCl (wX11_takeVars h0 h1 h2 h3 h4 kc1 kc2 kc3 kc4 V0 v0_textSize v0_from v0_to v0_token v0_name v0_wrong v0_wrongAt v0_globals c1 c2 c3 c4) H → va_D A (wX11_takeVars h0 h1 h2 h3 h4 kc1 kc2 kc3 kc4 V0 v0_textSize v0_from v0_to v0_token v0_name v0_wrong v0_wrongAt v0_globals c1 c2 c3 c4) → va_S A s.heap H locs → lv_has ls 5 [(0, .ref h0), (1, .int y1)] → fX11_takeVars_p20 v0_textSize c4 k2 y1 z0 v0_from v0_to v0_token v0_name v0_wrong v0_wrongAt v0_globals c1 c2 c3 = some o → G 0 0 H locs (F0 m 20 ls [.int z0, .ref h0]) := by
    intro k2 hk2 y1 z0 v0_from v0_to v0_token v0_name v0_wrong v0_wrongAt v0_globals c1 c2 c3 H locs ls hP hD hS hl hf
    refine (hG _ _ _ _ _).mpr ?_
    unfold fX11_takeVars_p20 at hf
    obtain ⟨o42, e42, hf⟩ := ob_some hf
    refine kVi (As := [.int z0]) (rest := []) ⟨hx, hb, hml, hown, hts⟩ (mX11_may l dC dI h0 H.size base z0 v0_from v0_token v0_wrong v0_wrongAt (fun k => match k with | 19 => .int v0_textSize | 20 => .ref h4 | 22 => .int v0_to | 24 => .long v0_name | 28 => .int v0_globals | 31 => .ref h1 | 32 => .ref h3 | 33 => .ref h2 | k => V0 k) o42 e42) (cwV 1 hts (gTV q836 q837 q838 q5 q839) rfl rfl rfl (by decide +kernel) ⟨Nat.le_of_ble_eq_true rfl, Nat.le_of_ble_eq_true rfl⟩) hK hP hD hS hA hE hAB [0] [1, 2, 3, 4] [] (wr := [(h1, .inl (kc1, 3, .inr (.inl c1))), (h2, .inl (kc2, 6, .inl c2)), (h3, .inl (kc3, 12, .inr (.inl c3))), (h4, .inl (kc4, 600, .inl c4))]) rfl rfl (by decide) (by decide) (by decide) rfl (ci := 11) (q0 := 0) rfl rfl rfl rfl hl.1 rfl (Nat.le_of_ble_eq_true rfl) dX11_takeVars_20 ⟨Nat.zero_le _, Nat.zero_le _⟩ (fun r42 u42 H locs hw42 hP hD hS => ?_)
    obtain ⟨hw421, hw422⟩ := hw42
    subst hw421 hw422
    have hP : va_P (dC, dI) vwCl (wX11_takeVars h0 h1 h2 h3 h4 kc1 kc2 kc3 kc4 V0 v0_textSize v0_from v0_to v0_token v0_name o42.2.1 o42.2.2 v0_globals c1 c2 c3 c4) H := hP.sub [4, 0, 1, 2, 3] rfl
    have hD : va_D A (wX11_takeVars h0 h1 h2 h3 h4 kc1 kc2 kc3 kc4 V0 v0_textSize v0_from v0_to v0_token v0_name o42.2.1 o42.2.2 v0_globals c1 c2 c3 c4) := hD.sub [4, 0, 1, 2, 3] (by decide) rfl
    refine lv_if_ne (tgt := 28) hx hb dX11_takeVars_23 (by decide) (fun cq43 => ?_) (fun cq43 => ?_)
    · replace hf := if_no hf cq43
      refine lv_iconst (v := (-1)) hx hb dX11_takeVars_28 (by decide +kernel) ?_
      refine lv_istore_n (lv' := [(3, .int (-1)), (0, .ref h0), (1, .int y1)]) hx hb dX11_takeVars_29 rfl hl (by decide) rfl (fun ls hl => ?_)
      refine lv_iconst (v := 0) hx hb dX11_takeVars_30 (by decide +kernel) ?_
      refine lv_istore (lv' := [(4, .int 0), (3, .int (-1)), (0, .ref h0), (1, .int y1)]) hx hb dX11_takeVars_31 hl (by decide) rfl (fun ls hl => ?_)
      exact (hG _ _ _ _ _).mp (L33 k2 hk2 FU y1 (-1) 0 v0_from v0_to v0_token v0_name o42.2.1 o42.2.2 v0_globals c1 c2 c3 H locs ls (hP.sub [0, 1, 2, 3, 4] rfl) (hD.sub [0, 1, 2, 3, 4] (by decide) rfl) hS (lv_sub hl [2, 3, 1, 0] rfl) hf)
    · replace hf := if_at hf cq43
      refine lv_iconst (v := 0) hx hb dX11_takeVars_26 (by decide +kernel) ?_
      have hf1 := Option.some.inj hf
      subst hf1
      have hP9 := hP.sub (ws' := (wX11_takeVars h0 h1 h2 h3 h4 kc1 kc2 kc3 kc4 V0 v0_textSize v0_from v0_to v0_token v0_name o42.2.1 o42.2.2 v0_globals c1 c2 c3 c4)) [0, 1, 2, 3, 4] rfl
      have hD9 := hD.sub (ws' := (wX11_takeVars h0 h1 h2 h3 h4 kc1 kc2 kc3 kc4 V0 v0_textSize v0_from v0_to v0_token v0_name o42.2.1 o42.2.2 v0_globals c1 c2 c3 c4)) [0, 1, 2, 3, 4] (by decide) rfl
      exact W.zret (v := 0) (ty := .boolean) hx hb hr rfl (fun t ht hW => ⟨⟨0, (v0_from, v0_to, v0_token, v0_name, o42.2.1, o42.2.2, v0_globals, c1, c2, c3), rfl, ⟨rfl, rfl⟩, by rw [ht]; exact hP9, va_K.moved hW.alike hK, hD9⟩, hS.F ht⟩) hS.2.2 dX11_takeVars_27
  have B2 : ∀ (k2 : Int32 → Int32 → Int32 → Int32 → Int32 → Int64 → Int32 → Int32 → Int32 → (Nat → Int64) → (Nat → Int32) → (Nat → Int64) → Option (Int32 × Int32 × Int32 × Int32 × Int64 × Int32 × Int32 × Int32 × (Nat → Int64) × (Nat → Int32) × (Nat → Int64))) (hk2 : ∀ (y1 : Int32) (y2 : Int32) (v0_from : Int32) (v0_to : Int32) (v0_token : Int32) (v0_name : Int64) (v0_wrong : Int32) (v0_wrongAt : Int32) (v0_globals : Int32) (c1 : (Nat → Int64)) (c2 : (Nat → Int32)) (c3 : (Nat → Int64)) (H : Heap) (locs : List Loc) (ls : Array Slot), va_P (dC, dI) vwCl (wX11_takeVars h0 h1 h2 h3 h4 kc1 kc2 kc3 kc4 V0 v0_textSize v0_from v0_to v0_token v0_name v0_wrong v0_wrongAt v0_globals c1 c2 c3 c4) H → va_D A (wX11_takeVars h0 h1 h2 h3 h4 kc1 kc2 kc3 kc4 V0 v0_textSize v0_from v0_to v0_token v0_name v0_wrong v0_wrongAt v0_globals c1 c2 c3 c4) → va_S A s.heap H locs → lv_has ls 5 [(0, .ref h0), (1, .int y1), (2, .int y2)] → k2 y1 y2 v0_from v0_to v0_token v0_name v0_wrong v0_wrongAt v0_globals c1 c2 c3 = some o → G 0 0 H locs (F0 m 2 ls [])), ∀ (y1 : Int32) (y2 : Int32) (v0_from : Int32) (v0_to : Int32) (v0_token : Int32) (v0_name : Int64) (v0_wrong : Int32) (v0_wrongAt : Int32) (v0_globals : Int32) (c1 : (Nat → Int64)) (c2 : (Nat → Int32)) (c3 : (Nat → Int64)) (H : Heap) (locs : List Loc) (ls : Array Slot), va_P (dC, dI) vwCl (wX11_takeVars h0 h1 h2 h3 h4 kc1 kc2 kc3 kc4 V0 v0_textSize v0_from v0_to v0_token v0_name v0_wrong v0_wrongAt v0_globals c1 c2 c3 c4) H → va_D A (wX11_takeVars h0 h1 h2 h3 h4 kc1 kc2 kc3 kc4 V0 v0_textSize v0_from v0_to v0_token v0_name v0_wrong v0_wrongAt v0_globals c1 c2 c3 c4) → va_S A s.heap H locs → lv_has ls 5 [(0, .ref h0), (1, .int y1), (2, .int y2)] → fX11_takeVars_b2 v0_textSize c4  k2 y1 y2 v0_from v0_to v0_token v0_name v0_wrong v0_wrongAt v0_globals c1 c2 c3 = some o → G 0 0 H locs (F0 m 2 ls []) := by
    intro  k2 hk2 y1 y2 v0_from v0_to v0_token v0_name v0_wrong v0_wrongAt v0_globals c1 c2 c3 H locs ls hP hD hS hl hf
    refine (hG _ _ _ _ _).mpr ?_
    unfold fX11_takeVars_b2 at hf
    refine lv_iload_n hx hb dX11_takeVars_2 rfl (lv_at hl 2 rfl) ?_
    refine lv_if_eq (tgt := 244) hx hb dX11_takeVars_3 (by decide) (fun cq44 => ?_) (fun cq44 => ?_)
    · replace hf := if_at hf cq44
      refine lv_aload_n hx hb dX11_takeVars_244 rfl (lv_at hl 0 rfl) ?_
      refine lv_bipush (v := 59) hx hb dX11_takeVars_245 (by decide +kernel) ?_
      obtain ⟨o45, e45, hf⟩ := ob_some hf
      refine kVi (As := [.int 59]) (rest := []) ⟨hx, hb, hml, hown, hts⟩ (mX11_take l dC dI h0 h4 kc4 H.size base 59 v0_textSize v0_from v0_to v0_token v0_name v0_wrong v0_wrongAt c4 (fun k => match k with | 28 => .int v0_globals | 31 => .ref h1 | 32 => .ref h3 | 33 => .ref h2 | k => V0 k) o45 e45) (cwV 1 hts (gTV q856 q857 q858 q5 q859) rfl rfl rfl (by decide +kernel) ⟨Nat.le_of_ble_eq_true rfl, Nat.le_of_ble_eq_true rfl⟩) hK hP hD hS hA hE hAB [0, 4] [1, 2, 3] [3] (wr := [(h1, .inl (kc1, 3, .inr (.inl c1))), (h2, .inl (kc2, 6, .inl c2)), (h3, .inl (kc3, 12, .inr (.inl c3)))]) rfl rfl (by decide) (by decide) (by decide) rfl (ci := 11) (q0 := 0) rfl rfl rfl rfl hl.1 rfl (Nat.le_of_ble_eq_true rfl) dX11_takeVars_247 ⟨Nat.zero_le _, Nat.zero_le _⟩ (fun r45 u45 H locs hw45 hP hD hS => ?_)
      obtain ⟨hw451, hw452⟩ := hw45
      subst hw451 hw452
      have hP : va_P (dC, dI) vwCl (wX11_takeVars h0 h1 h2 h3 h4 kc1 kc2 kc3 kc4 V0 v0_textSize o45.2.1 o45.2.2.1 o45.2.2.2.1 o45.2.2.2.2.1 o45.2.2.2.2.2.1 o45.2.2.2.2.2.2 v0_globals c1 c2 c3 c4) H := hP.sub [3, 0, 1, 2, 4] rfl
      have hD : va_D A (wX11_takeVars h0 h1 h2 h3 h4 kc1 kc2 kc3 kc4 V0 v0_textSize o45.2.1 o45.2.2.1 o45.2.2.2.1 o45.2.2.2.2.1 o45.2.2.2.2.2.1 o45.2.2.2.2.2.2 v0_globals c1 c2 c3 c4) := hD.sub [3, 0, 1, 2, 4] (by decide) rfl
      have b46 := bd_b hf
      replace hf := bd_k hf
      have hf1 := Option.some.inj hf
      subst hf1
      have hP9 := hP.sub (ws' := (wX11_takeVars h0 h1 h2 h3 h4 kc1 kc2 kc3 kc4 V0 v0_textSize o45.2.1 o45.2.2.1 o45.2.2.2.1 o45.2.2.2.2.1 o45.2.2.2.2.2.1 o45.2.2.2.2.2.2 v0_globals c1 c2 c3 c4)) [0, 1, 2, 3, 4] rfl
      have hD9 := hD.sub (ws' := (wX11_takeVars h0 h1 h2 h3 h4 kc1 kc2 kc3 kc4 V0 v0_textSize o45.2.1 o45.2.2.1 o45.2.2.2.1 o45.2.2.2.2.1 o45.2.2.2.2.2.1 o45.2.2.2.2.2.2 v0_globals c1 c2 c3 c4)) [0, 1, 2, 3, 4] (by decide) rfl
      exact W.zret (v := o45.1) (ty := .boolean) hx hb hr (bz_nar b46) (fun t ht hW => ⟨⟨o45.1, (o45.2.1, o45.2.2.1, o45.2.2.2.1, o45.2.2.2.2.1, o45.2.2.2.2.2.1, o45.2.2.2.2.2.2, v0_globals, c1, c2, c3), rfl, ⟨rfl, rfl⟩, by rw [ht]; exact hP9, va_K.moved hW.alike hK, hD9⟩, hS.F ht⟩) hS.2.2 dX11_takeVars_250
    · replace hf := if_no hf cq44
      refine lv_aload_n hx hb dX11_takeVars_6 rfl (lv_at hl 0 rfl) ?_
      refine lv_aload_n hx hb dX11_takeVars_7 rfl (lv_at hl 0 rfl) ?_
      refine va_get (D := (dC, dI)) (ci := 11) (v := .int v0_token) (C := RX11) (T := TX11) (N := 71) hx hb hts inlX11 hown hK hP 0 rfl rfl 23 (by decide) w6_ (fun _ h9 => h9) rfl dX11_takeVars_8 ?_
      refine lv_iconst (v := 1) hx hb dX11_takeVars_11 (by decide +kernel) ?_
      refine lv_icmp_ne (tgt := 19) hx hb dX11_takeVars_12 (by decide) (fun cq47 => ?_) (fun cq47 => ?_)
      · replace hf := if_no hf cq47
        refine lv_iconst (v := 0) hx hb dX11_takeVars_19 (by decide +kernel) ?_
        exact (hG _ _ _ _ _).mp (J20 k2 hk2 y1 0 v0_from v0_to v0_token v0_name v0_wrong v0_wrongAt v0_globals c1 c2 c3 H locs ls (hP.sub [0, 1, 2, 3, 4] rfl) (hD.sub [0, 1, 2, 3, 4] (by decide) rfl) hS (lv_sub hl [0, 1] rfl) hf)
      · replace hf := if_at hf cq47
        refine lv_iconst (v := 1) hx hb dX11_takeVars_15 (by decide +kernel) ?_
        refine lv_goto (tgt := 20) hx hb dX11_takeVars_16 (by decide) ?_
        exact (hG _ _ _ _ _).mp (J20 k2 hk2 y1 1 v0_from v0_to v0_token v0_name v0_wrong v0_wrongAt v0_globals c1 c2 c3 H locs ls (hP.sub [0, 1, 2, 3, 4] rfl) (hD.sub [0, 1, 2, 3, 4] (by decide) rfl) hS (lv_sub hl [0, 1] rfl) hf)
  have L2 : ∀ (n : Nat), ∀ (y1 : Int32) (y2 : Int32) (v0_from : Int32) (v0_to : Int32) (v0_token : Int32) (v0_name : Int64) (v0_wrong : Int32) (v0_wrongAt : Int32) (v0_globals : Int32) (c1 : (Nat → Int64)) (c2 : (Nat → Int32)) (c3 : (Nat → Int64)) (H : Heap) (locs : List Loc) (ls : Array Slot), va_P (dC, dI) vwCl (wX11_takeVars h0 h1 h2 h3 h4 kc1 kc2 kc3 kc4 V0 v0_textSize v0_from v0_to v0_token v0_name v0_wrong v0_wrongAt v0_globals c1 c2 c3 c4) H → va_D A (wX11_takeVars h0 h1 h2 h3 h4 kc1 kc2 kc3 kc4 V0 v0_textSize v0_from v0_to v0_token v0_name v0_wrong v0_wrongAt v0_globals c1 c2 c3 c4) → va_S A s.heap H locs → lv_has ls 5 [(0, .ref h0), (1, .int y1), (2, .int y2)] → fX11_takeVars_l2 v0_textSize c4  n y1 y2 v0_from v0_to v0_token v0_name v0_wrong v0_wrongAt v0_globals c1 c2 c3 = some o → G 0 0 H locs (F0 m 2 ls []) := by
    intro  n
    induction n with
    | zero => intro y1 y2 v0_from v0_to v0_token v0_name v0_wrong v0_wrongAt v0_globals c1 c2 c3 H locs ls _ _ _ _ hf; cases hf
    | succ n ih => exact B2  _ ih
  refine (hG _ _ _ _ _).mpr ?_
  obtain ⟨H, hH⟩ : ∃ H, H = s.heap := ⟨_, rfl⟩
  have hS : va_S A s.heap H [] := by rw [hH]; exact hS
  rw [← hH] at hP ⊢
  generalize ([] : List Loc) = locs at hS ⊢
  unfold fX11_takeVars at hf
  refine lv_iconst (v := 1) hx hb dX11_takeVars_0 (by decide +kernel) ?_
  refine lv_istore_n (lv' := [(2, .int 1), (0, .ref h0), (1, .int a0)]) hx hb dX11_takeVars_1 rfl hl (by decide) rfl (fun ls hl => ?_)
  exact (hG _ _ _ _ _).mp (L2 FU a0 1 v0_from v0_to v0_token v0_name v0_wrong v0_wrongAt v0_globals c1 c2 c3 H locs ls (hP.sub [0, 1, 2, 3, 4] rfl) (hD.sub [0, 1, 2, 3, 4] (by decide) rfl) hS (lv_sub hl [1, 2, 0] rfl) hf)
