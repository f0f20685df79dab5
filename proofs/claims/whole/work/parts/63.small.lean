set_option maxHeartbeats 4000000 in
set_option maxRecDepth 100000 in
theorem mJ7_fill_53178 (l : Launch) (dC : Nat → ClassId) (dI : Nat → Nat → Nat) (h0 : Nat) (k0 : ClassId) (sz base : Nat) (a1 : Int32) (n0 : Nat) (c0 : Nat → Int32) (o : (Nat → Int32)) (hf : fJ7_fill_53178 a1 n0 c0 = some o) : Met l yJ7_fill_53178 (.code yJ7_fill_53178 cJ7_fill_53178 4 none :: wsL_law) ({ frames := 0, cells := 0, slots := 0, locals := 0 }) (cPre (dC, dI) vwCl [.ref h0, .int a1] sz base [(h0, .inl (k0, n0, .inl c0))] [(k0, .int)]) (va_Qv (fun u => u = o) (fun (u : (Nat → Int32)) t => cPost (dC, dI) vwCl (va_A [(h0, .inl (k0, n0, .inl c0))] sz) [(h0, .inl (k0, n0, .inl u))] [(k0, .int)] t) (va_A [(h0, .inl (k0, n0, .inl c0))] sz)) 0 0 (va_A [(h0, .inl (k0, n0, .inl c0))] sz) := by
  refine Met.ofW (cc := cJ7_fill_53178) (maxL := 4) (ret := none) (by decide) rfl ?_
  intro p e s m args below meth c s₁ B hml hv
  obtain ⟨rfl, hsz, hP, hK, hD0, hE⟩ := hv
  have hx := B.exec
  have hb := B.bytes
  have hr := B.returns
  have hts : ∀ w ∈ wsL_law, _ := fun w h => atoms_spec (ws := .code yJ7_fill_53178 cJ7_fill_53178 4 none :: wsL_law) B.pre w (List.mem_cons_of_mem _ h)
  have hown : s.vm.findClass RJ7 = some m.cls := findClass_of_methodNamed B.named
  have hlocks := B.notSynchronized
  skip
  subst hsz
  have hD := hD0.self (sz := s.heap.size)
  generalize hAe : va_A [(h0, .inl (k0, n0, .inl c0))] s.heap.size = A at hD ⊢
  have hA : ∀ q : Nat, s.heap.size ≤ q → A q := fun q h => by rw [← hAe]; exact Or.inr h
  have hAB : ∀ q : Nat, A q → base ≤ q := fun q h => by rw [← hAe] at h; exact h.elim (fun ⟨k, e, hk⟩ => hD0.2 k _ hk) (fun hk => Nat.le_trans hE.1 hk)
  have hS : va_S A s.heap s.heap [] := va_S.rf
  have hl := lv_entry ([.ref h0, .int a1]) (n := 4) (Nat.le_of_ble_eq_true rfl)
  rw [lg_entry_eq]
  generalize (lg_sl ([.ref h0, .int a1]) ++ List.replicate (4 - (lg_sl ([.ref h0, .int a1])).length) Slot.unset).toArray = ls at hl ⊢
  have hl : lv_has ls 4 [(0, .ref h0), (1, .int a1)] := hl
  have hP : va_P (dC, dI) vwCl [(h0, .inl (k0, n0, .inl c0))] s.heap := hP
  refine gl_intro (fun G hG => ?_)
  have B5 : ∀ (k5 : Int32 → Int32 → Int32 → (Nat → Int32) → Option ((Nat → Int32))) (hk5 : ∀ (y1 : Int32) (y2 : Int32) (y3 : Int32) (c0 : (Nat → Int32)) (H : Heap) (locs : List Loc) (ls : Array Slot), va_P (dC, dI) vwCl [(h0, .inl (k0, n0, .inl c0))] H → va_D A [(h0, .inl (k0, n0, .inl c0))] → va_S A s.heap H locs → lv_has ls 4 [(0, .ref h0), (1, .int y1), (2, .int y2), (3, .int y3)] → k5 y1 y2 y3 c0 = some o → G 0 0 H locs (F0 m 5 ls [])), ∀ (y1 : Int32) (y2 : Int32) (y3 : Int32) (c0 : (Nat → Int32)) (H : Heap) (locs : List Loc) (ls : Array Slot), va_P (dC, dI) vwCl [(h0, .inl (k0, n0, .inl c0))] H → va_D A [(h0, .inl (k0, n0, .inl c0))] → va_S A s.heap H locs → lv_has ls 4 [(0, .ref h0), (1, .int y1), (2, .int y2), (3, .int y3)] → fJ7_fill_53178_b5 n0  k5 y1 y2 y3 c0 = some o → G 0 0 H locs (F0 m 5 ls []) := by
    intro  k5 hk5 y1 y2 y3 c0 H locs ls hP hD hS hl hf
    refine (hG _ _ _ _ _).mpr ?_
    unfold fJ7_fill_53178_b5 at hf
    refine lv_iload_n hx hb dJ7_fill_53178_5 rfl (lv_at hl 2 rfl) ?_
    refine lv_iload_n hx hb dJ7_fill_53178_6 rfl (lv_at hl 3 rfl) ?_
    refine lv_icmp_ge (tgt := 20) hx hb dJ7_fill_53178_7 (by decide) (fun q1 => ?_) (fun q1 => ?_)
    · replace hf := if_at hf q1
      have hf1 := Option.some.inj hf
      subst hf1
      have hP9 := hP.sub (ws' := [(h0, .inl (k0, n0, .inl c0))]) [0] rfl
      have hD9 := hD.sub (ws' := [(h0, .inl (k0, n0, .inl c0))]) [0] (by decide) rfl
      exact W.vret hx hb hr (fun t ht hW => ⟨⟨c0, rfl, rfl, by rw [ht]; exact hP9, va_K.moved hW.alike hK, hD9⟩, hS.F ht⟩) hS.2.2 dJ7_fill_53178_20
    · replace hf := if_no hf q1
      refine lv_aload_n hx hb dJ7_fill_53178_10 rfl (lv_at hl 0 rfl) ?_
      refine lv_iload_n hx hb dJ7_fill_53178_11 rfl (lv_at hl 2 rfl) ?_
      refine lv_iload_n hx hb dJ7_fill_53178_12 rfl (lv_at hl 1 rfl) ?_
      have b2 := bd_in hf
      replace hf := bd_k hf
      obtain ⟨c2x, e2⟩ : ∃ y, y = upd c0 y2.toNatClampNeg y1 := ⟨_, rfl⟩
      replace hf := nm_at hf e2
      refine va_iast hx hb hK hP hD hS 0 0 rfl rfl b2 dJ7_fill_53178_13 (fun H locs hP hD hS => ?_)
      have hP : va_P (dC, dI) vwCl [(h0, .inl (k0, n0, .inl c2x))] H := by rw [e2]; exact hP
      have hD : va_D A [(h0, .inl (k0, n0, .inl c2x))] := by rw [e2]; exact hD
      obtain ⟨x3, e3⟩ : ∃ y : Int32, y = y2 + 1 := ⟨_, rfl⟩
      replace hf := nm_at hf e3
      refine lv_iinc (v := x3) (lv' := [(2, .int x3), (0, .ref h0), (1, .int y1), (3, .int y3)]) hx hb dJ7_fill_53178_14 hl (k := 2) rfl (by rw [e3]; rfl) (by decide) rfl (fun ls hl => ?_)
      refine lv_goto (tgt := 5) hx hb dJ7_fill_53178_17 (by decide) ?_
      exact (hG _ _ _ _ _).mp (hk5 y1 x3 y3 c2x H locs ls (hP.sub [0] rfl) (hD.sub [0] (by decide) rfl) hS (lv_sub hl [1, 2, 0, 3] rfl) hf)
  have L5 : ∀ (n : Nat), ∀ (y1 : Int32) (y2 : Int32) (y3 : Int32) (c0 : (Nat → Int32)) (H : Heap) (locs : List Loc) (ls : Array Slot), va_P (dC, dI) vwCl [(h0, .inl (k0, n0, .inl c0))] H → va_D A [(h0, .inl (k0, n0, .inl c0))] → va_S A s.heap H locs → lv_has ls 4 [(0, .ref h0), (1, .int y1), (2, .int y2), (3, .int y3)] → fJ7_fill_53178_l5 n0  n y1 y2 y3 c0 = some o → G 0 0 H locs (F0 m 5 ls []) := by
    intro  n
    induction n with
    | zero => intro y1 y2 y3 c0 H locs ls _ _ _ _ hf; cases hf
    | succ n ih => exact B5  _ ih
  refine (hG _ _ _ _ _).mpr ?_
  obtain ⟨H, hH⟩ : ∃ H, H = s.heap := ⟨_, rfl⟩
  have hS : va_S A s.heap H [] := by rw [hH]; exact hS
  rw [← hH] at hP ⊢
  generalize ([] : List Loc) = locs at hS ⊢
  unfold fJ7_fill_53178 at hf
  refine lv_iconst (v := 0) hx hb dJ7_fill_53178_0 (by decide +kernel) ?_
  refine lv_istore_n (lv' := [(2, .int 0), (0, .ref h0), (1, .int a1)]) hx hb dJ7_fill_53178_1 rfl hl (by decide) rfl (fun ls hl => ?_)
  refine lv_aload_n hx hb dJ7_fill_53178_2 rfl (lv_at hl 1 rfl) ?_
  refine va_alen hx hb hK hP 0 0 rfl rfl (v := Int32.ofNat n0) rfl dJ7_fill_53178_3 ?_
  refine lv_topi (fun x4 e4 => ?_)
  replace hf := nm_at hf e4
  refine lv_istore_n (lv' := [(3, .int x4), (2, .int 0), (0, .ref h0), (1, .int a1)]) hx hb dJ7_fill_53178_4 rfl hl (by decide) rfl (fun ls hl => ?_)
  exact (hG _ _ _ _ _).mp (L5 FU a1 0 x4 c0 H locs ls (hP.sub [0] rfl) (hD.sub [0] (by decide) rfl) hS (lv_sub hl [2, 3, 1, 0] rfl) hf)
set_option maxHeartbeats 4000000 in
set_option maxRecDepth 100000 in
theorem mX10_sum (l : Launch) (dC : Nat → ClassId) (dI : Nat → Nat → Nat) (sz base : Nat) (a0 : Int32) (a1 : Int32) (o : Int32 × Unit) (hf : fX10_sum a0 a1 = some o) : Met l yX10_sum (.code yX10_sum cX10_sum 2 (some .int) :: wsL_law) ({ frames := 1, cells := 0, slots := 0, locals := 21 }) (cPre (dC, dI) vwCl [.int a0, .int a1] sz base [] []) (va_Qi (fun r u => r = o.1 ∧ u = o.2) (fun (u : Unit) t => cPost (dC, dI) vwCl (va_A [] sz) [] [] t) (va_A [] sz)) 0 0 (va_A [] sz) := by
  refine Met.ofW (cc := cX10_sum) (maxL := 2) (ret := (some .int)) (by decide) rfl ?_
  intro p e s m args below meth c s₁ B hml hv
  obtain ⟨rfl, hsz, hP, hK, hD0, hE⟩ := hv
  have hx := B.exec
  have hb := B.bytes
  have hr := B.returns
  have hts : ∀ w ∈ wsL_law, _ := fun w h => atoms_spec (ws := .code yX10_sum cX10_sum 2 (some .int) :: wsL_law) B.pre w (List.mem_cons_of_mem _ h)
  have hown : s.vm.findClass RX10 = some m.cls := findClass_of_methodNamed B.named
  have hlocks := B.notSynchronized
  have w0_ := hts _ q253
  have w1_ := hts _ q344
  have w2_ := hts _ q345
  have w3_ := hts _ q316
  have w4_ := hts _ q280
  have w5_ := hts _ q317
  subst hsz
  have hD := hD0.self (sz := s.heap.size)
  generalize hAe : va_A [] s.heap.size = A at hD ⊢
  have hA : ∀ q : Nat, s.heap.size ≤ q → A q := fun q h => by rw [← hAe]; exact Or.inr h
  have hAB : ∀ q : Nat, A q → base ≤ q := fun q h => by rw [← hAe] at h; exact h.elim (fun ⟨k, e, hk⟩ => hD0.2 k _ hk) (fun hk => Nat.le_trans hE.1 hk)
  have hS : va_S A s.heap s.heap [] := va_S.rf
  have hl := lv_entry ([.int a0, .int a1]) (n := 2) (Nat.le_of_ble_eq_true rfl)
  rw [lg_entry_eq]
  generalize (lg_sl ([.int a0, .int a1]) ++ List.replicate (2 - (lg_sl ([.int a0, .int a1])).length) Slot.unset).toArray = ls at hl ⊢
  have hl : lv_has ls 2 [(0, .int a0), (1, .int a1)] := hl
  have hP : va_P (dC, dI) vwCl [] s.heap := hP
  refine gl_intro (fun G hG => ?_)
  have J12 : ∀ (H : Heap) (locs : List Loc) (ls : Array Slot), va_P (dC, dI) vwCl [] H → va_D A [] → va_S A s.heap H locs → lv_has ls 2 [] → fX10_sum_p12    = some o → G 0 0 H locs (F0 m 12 ls []) := by
    intro   H locs ls hP hD hS hl hf
    refine (hG _ _ _ _ _).mpr ?_
    unfold fX10_sum_p12 at hf
    refine lv_ldc (v := 536870912) hx hb hown w0_ dX10_sum_12 ?_
    have hf1 := Option.some.inj hf
    subst hf1
    have hP9 := hP.sub (ws' := []) [] rfl
    have hD9 := hD.sub (ws' := []) [] (by decide) rfl
    exact W.iret (v := 536870912) hx hb hr (fun t ht hW => ⟨⟨536870912, (), rfl, ⟨rfl, rfl⟩, by rw [ht]; exact hP9, va_K.moved hW.alike hK, hD9⟩, hS.F ht⟩) hS.2.2 dX10_sum_14
  refine (hG _ _ _ _ _).mpr ?_
  obtain ⟨H, hH⟩ : ∃ H, H = s.heap := ⟨_, rfl⟩
  have hS : va_S A s.heap H [] := by rw [hH]; exact hS
  rw [← hH] at hP ⊢
  generalize ([] : List Loc) = locs at hS ⊢
  unfold fX10_sum at hf
  refine lv_iload_n hx hb dX10_sum_0 rfl (lv_at hl 0 rfl) ?_
  refine lv_ldc (v := 536870912) hx hb hown w0_ dX10_sum_1 ?_
  refine lv_icmp_ge (tgt := 12) hx hb dX10_sum_3 (by decide) (fun q1 => ?_) (fun q1 => ?_)
  · replace hf := if_at hf q1
    exact (hG _ _ _ _ _).mp (J12 H locs ls (hP.sub [] rfl) (hD.sub [] (by decide) rfl) hS (lv_sub hl [] rfl) hf)
  · replace hf := if_no hf q1
    refine lv_iload_n hx hb dX10_sum_6 rfl (lv_at hl 1 rfl) ?_
    refine lv_ldc (v := 536870912) hx hb hown w0_ dX10_sum_7 ?_
    refine lv_icmp_lt (tgt := 15) hx hb dX10_sum_9 (by decide) (fun q2 => ?_) (fun q2 => ?_)
    · replace hf := if_at hf q2
      refine lv_iload_n hx hb dX10_sum_15 rfl (lv_at hl 0 rfl) ?_
      refine lv_iload_n hx hb dX10_sum_16 rfl (lv_at hl 1 rfl) ?_
      refine lv_iadd hx hb dX10_sum_17 ?_
      refine lv_topi (fun x3 e3 => ?_)
      replace hf := nm_at hf e3
      refine lv_ldc (v := 1000000) hx hb hown w1_ dX10_sum_18 ?_
      refine va_mmin hx hb (by rw [hml]; exact hl.1.symm) hown w2_ w3_ w4_ w5_ (Nat.le_of_ble_eq_true rfl) (Nat.le_of_ble_eq_true rfl) (Nat.zero_le _) (Nat.zero_le _) dX10_sum_20 ?_
      refine lv_topi (fun x4 e4 => ?_)
      replace hf := nm_at hf e4
      have hf1 := Option.some.inj hf
      subst hf1
      have hP9 := hP.sub (ws' := []) [] rfl
      have hD9 := hD.sub (ws' := []) [] (by decide) rfl
      exact W.iret (v := x4) hx hb hr (fun t ht hW => ⟨⟨x4, (), rfl, ⟨rfl, rfl⟩, by rw [ht]; exact hP9, va_K.moved hW.alike hK, hD9⟩, hS.F ht⟩) hS.2.2 dX10_sum_23
    · replace hf := if_no hf q2
      exact (hG _ _ _ _ _).mp (J12 H locs ls (hP.sub [] rfl) (hD.sub [] (by decide) rfl) hS (lv_sub hl [] rfl) hf)
set_option maxHeartbeats 4000000 in
set_option maxRecDepth 100000 in
theorem mJ7_fill_d0a16 (l : Launch) (dC : Nat → ClassId) (dI : Nat → Nat → Nat) (h0 : Nat) (k0 : ClassId) (sz base : Nat) (a1 : Int64) (n0 : Nat) (c0 : Nat → Int64) (o : (Nat → Int64)) (hf : fJ7_fill_d0a16 a1 n0 c0 = some o) : Met l yJ7_fill_d0a16 (.code yJ7_fill_d0a16 cJ7_fill_d0a16 5 none :: wsL_law) ({ frames := 0, cells := 0, slots := 0, locals := 0 }) (cPre (dC, dI) vwCl [.ref h0, .long a1] sz base [(h0, .inl (k0, n0, .inr (.inl c0)))] [(k0, .long)]) (va_Qv (fun u => u = o) (fun (u : (Nat → Int64)) t => cPost (dC, dI) vwCl (va_A [(h0, .inl (k0, n0, .inr (.inl c0)))] sz) [(h0, .inl (k0, n0, .inr (.inl u)))] [(k0, .long)] t) (va_A [(h0, .inl (k0, n0, .inr (.inl c0)))] sz)) 0 0 (va_A [(h0, .inl (k0, n0, .inr (.inl c0)))] sz) := by
  refine Met.ofW (cc := cJ7_fill_d0a16) (maxL := 5) (ret := none) (by decide) rfl ?_
  intro p e s m args below meth c s₁ B hml hv
  obtain ⟨rfl, hsz, hP, hK, hD0, hE⟩ := hv
  have hx := B.exec
  have hb := B.bytes
  have hr := B.returns
  have hts : ∀ w ∈ wsL_law, _ := fun w h => atoms_spec (ws := .code yJ7_fill_d0a16 cJ7_fill_d0a16 5 none :: wsL_law) B.pre w (List.mem_cons_of_mem _ h)
  have hown : s.vm.findClass RJ7 = some m.cls := findClass_of_methodNamed B.named
  have hlocks := B.notSynchronized
  skip
  subst hsz
  have hD := hD0.self (sz := s.heap.size)
  generalize hAe : va_A [(h0, .inl (k0, n0, .inr (.inl c0)))] s.heap.size = A at hD ⊢
  have hA : ∀ q : Nat, s.heap.size ≤ q → A q := fun q h => by rw [← hAe]; exact Or.inr h
  have hAB : ∀ q : Nat, A q → base ≤ q := fun q h => by rw [← hAe] at h; exact h.elim (fun ⟨k, e, hk⟩ => hD0.2 k _ hk) (fun hk => Nat.le_trans hE.1 hk)
  have hS : va_S A s.heap s.heap [] := va_S.rf
  have hl := lv_entry ([.ref h0, .long a1]) (n := 5) (Nat.le_of_ble_eq_true rfl)
  rw [lg_entry_eq]
  generalize (lg_sl ([.ref h0, .long a1]) ++ List.replicate (5 - (lg_sl ([.ref h0, .long a1])).length) Slot.unset).toArray = ls at hl ⊢
  have hl : lv_has ls 5 [(0, .ref h0), (1, .long a1)] := hl
  have hP : va_P (dC, dI) vwCl [(h0, .inl (k0, n0, .inr (.inl c0)))] s.heap := hP
  refine gl_intro (fun G hG => ?_)
  have B6 : ∀ (k6 : Int64 → Int32 → Int32 → (Nat → Int64) → Option ((Nat → Int64))) (hk6 : ∀ (y1 : Int64) (y3 : Int32) (y4 : Int32) (c0 : (Nat → Int64)) (H : Heap) (locs : List Loc) (ls : Array Slot), va_P (dC, dI) vwCl [(h0, .inl (k0, n0, .inr (.inl c0)))] H → va_D A [(h0, .inl (k0, n0, .inr (.inl c0)))] → va_S A s.heap H locs → lv_has ls 5 [(0, .ref h0), (1, .long y1), (3, .int y3), (4, .int y4)] → k6 y1 y3 y4 c0 = some o → G 0 0 H locs (F0 m 6 ls [])), ∀ (y1 : Int64) (y3 : Int32) (y4 : Int32) (c0 : (Nat → Int64)) (H : Heap) (locs : List Loc) (ls : Array Slot), va_P (dC, dI) vwCl [(h0, .inl (k0, n0, .inr (.inl c0)))] H → va_D A [(h0, .inl (k0, n0, .inr (.inl c0)))] → va_S A s.heap H locs → lv_has ls 5 [(0, .ref h0), (1, .long y1), (3, .int y3), (4, .int y4)] → fJ7_fill_d0a16_b6 n0  k6 y1 y3 y4 c0 = some o → G 0 0 H locs (F0 m 6 ls []) := by
    intro  k6 hk6 y1 y3 y4 c0 H locs ls hP hD hS hl hf
    refine (hG _ _ _ _ _).mpr ?_
    unfold fJ7_fill_d0a16_b6 at hf
    refine lv_iload_n hx hb dJ7_fill_d0a16_6 rfl (lv_at hl 2 rfl) ?_
    refine lv_iload hx hb dJ7_fill_d0a16_7 (lv_at hl 3 rfl) ?_
    refine lv_icmp_ge (tgt := 22) hx hb dJ7_fill_d0a16_9 (by decide) (fun q1 => ?_) (fun q1 => ?_)
    · replace hf := if_at hf q1
      have hf1 := Option.some.inj hf
      subst hf1
      have hP9 := hP.sub (ws' := [(h0, .inl (k0, n0, .inr (.inl c0)))]) [0] rfl
      have hD9 := hD.sub (ws' := [(h0, .inl (k0, n0, .inr (.inl c0)))]) [0] (by decide) rfl
      exact W.vret hx hb hr (fun t ht hW => ⟨⟨c0, rfl, rfl, by rw [ht]; exact hP9, va_K.moved hW.alike hK, hD9⟩, hS.F ht⟩) hS.2.2 dJ7_fill_d0a16_22
    · replace hf := if_no hf q1
      refine lv_aload_n hx hb dJ7_fill_d0a16_12 rfl (lv_at hl 0 rfl) ?_
      refine lv_iload_n hx hb dJ7_fill_d0a16_13 rfl (lv_at hl 2 rfl) ?_
      refine lv_lload_n hx hb dJ7_fill_d0a16_14 rfl (lv_at hl 1 rfl) ?_
      have b2 := bd_in hf
      replace hf := bd_k hf
      obtain ⟨c2x, e2⟩ : ∃ y, y = vp_updL c0 y3.toNatClampNeg y1 := ⟨_, rfl⟩
      replace hf := nm_at hf e2
      refine va_last hx hb hK hP hD hS 0 0 rfl rfl b2 dJ7_fill_d0a16_15 (fun H locs hP hD hS => ?_)
      have hP : va_P (dC, dI) vwCl [(h0, .inl (k0, n0, .inr (.inl c2x)))] H := by rw [e2]; exact hP
      have hD : va_D A [(h0, .inl (k0, n0, .inr (.inl c2x)))] := by rw [e2]; exact hD
      obtain ⟨x3, e3⟩ : ∃ y : Int32, y = y3 + 1 := ⟨_, rfl⟩
      replace hf := nm_at hf e3
      refine lv_iinc (v := x3) (lv' := [(3, .int x3), (0, .ref h0), (1, .long y1), (4, .int y4)]) hx hb dJ7_fill_d0a16_16 hl (k := 2) rfl (by rw [e3]; rfl) (by decide) rfl (fun ls hl => ?_)
      refine lv_goto (tgt := 6) hx hb dJ7_fill_d0a16_19 (by decide) ?_
      exact (hG _ _ _ _ _).mp (hk6 y1 x3 y4 c2x H locs ls (hP.sub [0] rfl) (hD.sub [0] (by decide) rfl) hS (lv_sub hl [1, 2, 0, 3] rfl) hf)
  have L6 : ∀ (n : Nat), ∀ (y1 : Int64) (y3 : Int32) (y4 : Int32) (c0 : (Nat → Int64)) (H : Heap) (locs : List Loc) (ls : Array Slot), va_P (dC, dI) vwCl [(h0, .inl (k0, n0, .inr (.inl c0)))] H → va_D A [(h0, .inl (k0, n0, .inr (.inl c0)))] → va_S A s.heap H locs → lv_has ls 5 [(0, .ref h0), (1, .long y1), (3, .int y3), (4, .int y4)] → fJ7_fill_d0a16_l6 n0  n y1 y3 y4 c0 = some o → G 0 0 H locs (F0 m 6 ls []) := by
    intro  n
    induction n with
    | zero => intro y1 y3 y4 c0 H locs ls _ _ _ _ hf; cases hf
    | succ n ih => exact B6  _ ih
  refine (hG _ _ _ _ _).mpr ?_
  obtain ⟨H, hH⟩ : ∃ H, H = s.heap := ⟨_, rfl⟩
  have hS : va_S A s.heap H [] := by rw [hH]; exact hS
  rw [← hH] at hP ⊢
  generalize ([] : List Loc) = locs at hS ⊢
  unfold fJ7_fill_d0a16 at hf
  refine lv_iconst (v := 0) hx hb dJ7_fill_d0a16_0 (by decide +kernel) ?_
  refine lv_istore_n (lv' := [(3, .int 0), (0, .ref h0), (1, .long a1)]) hx hb dJ7_fill_d0a16_1 rfl hl (by decide) rfl (fun ls hl => ?_)
  refine lv_aload_n hx hb dJ7_fill_d0a16_2 rfl (lv_at hl 1 rfl) ?_
  refine va_alen hx hb hK hP 0 0 rfl rfl (v := Int32.ofNat n0) rfl dJ7_fill_d0a16_3 ?_
  refine lv_topi (fun x4 e4 => ?_)
  replace hf := nm_at hf e4
  refine lv_istore (lv' := [(4, .int x4), (3, .int 0), (0, .ref h0), (1, .long a1)]) hx hb dJ7_fill_d0a16_4 hl (by decide) rfl (fun ls hl => ?_)
  exact (hG _ _ _ _ _).mp (L6 FU a1 0 x4 c0 H locs ls (hP.sub [0] rfl) (hD.sub [0] (by decide) rfl) hS (lv_sub hl [2, 3, 1, 0] rfl) hf)
set_option maxHeartbeats 4000000 in
set_option maxRecDepth 100000 in
theorem mX10_isNode (l : Launch) (dC : Nat → ClassId) (dI : Nat → Nat → Nat) (sz base : Nat) (a0 : Int32) (o : Int32 × Unit) (hf : fX10_isNode a0 = some o) : Met l yX10_isNode (.code yX10_isNode cX10_isNode 1 (some .boolean) :: wsL_law) ({ frames := 0, cells := 0, slots := 0, locals := 0 }) (cPre (dC, dI) vwCl [.int a0] sz base [] []) (va_Qi (fun r u => r = o.1 ∧ u = o.2) (fun (u : Unit) t => cPost (dC, dI) vwCl (va_A [] sz) [] [] t) (va_A [] sz)) 0 0 (va_A [] sz) := by
  refine Met.ofW (cc := cX10_isNode) (maxL := 1) (ret := (some .boolean)) (by decide) rfl ?_
  intro p e s m args below meth c s₁ B hml hv
  obtain ⟨rfl, hsz, hP, hK, hD0, hE⟩ := hv
  have hx := B.exec
  have hb := B.bytes
  have hr := B.returns
  have hts : ∀ w ∈ wsL_law, _ := fun w h => atoms_spec (ws := .code yX10_isNode cX10_isNode 1 (some .boolean) :: wsL_law) B.pre w (List.mem_cons_of_mem _ h)
  have hown : s.vm.findClass RX10 = some m.cls := findClass_of_methodNamed B.named
  have hlocks := B.notSynchronized
  skip
  subst hsz
  have hD := hD0.self (sz := s.heap.size)
  generalize hAe : va_A [] s.heap.size = A at hD ⊢
  have hA : ∀ q : Nat, s.heap.size ≤ q → A q := fun q h => by rw [← hAe]; exact Or.inr h
  have hAB : ∀ q : Nat, A q → base ≤ q := fun q h => by rw [← hAe] at h; exact h.elim (fun ⟨k, e, hk⟩ => hD0.2 k _ hk) (fun hk => Nat.le_trans hE.1 hk)
  have hS : va_S A s.heap s.heap [] := va_S.rf
  have hl := lv_entry ([.int a0]) (n := 1) (Nat.le_of_ble_eq_true rfl)
  rw [lg_entry_eq]
  generalize (lg_sl ([.int a0]) ++ List.replicate (1 - (lg_sl ([.int a0])).length) Slot.unset).toArray = ls at hl ⊢
  have hl : lv_has ls 1 [(0, .int a0)] := hl
  have hP : va_P (dC, dI) vwCl [] s.heap := hP
  refine gl_intro (fun G hG => ?_)
  have J15 : ∀ (z0 : Int32) (H : Heap) (locs : List Loc) (ls : Array Slot), va_P (dC, dI) vwCl [] H → va_D A [] → va_S A s.heap H locs → lv_has ls 1 [] → fX10_isNode_p15   z0 = some o → G 0 0 H locs (F0 m 15 ls [.int z0]) := by
    intro  z0 H locs ls hP hD hS hl hf
    refine (hG _ _ _ _ _).mpr ?_
    unfold fX10_isNode_p15 at hf
    have b1 := bd_b hf
    replace hf := bd_k hf
    have hf1 := Option.some.inj hf
    subst hf1
    have hP9 := hP.sub (ws' := []) [] rfl
    have hD9 := hD.sub (ws' := []) [] (by decide) rfl
    exact W.zret (v := z0) (ty := .boolean) hx hb hr (bz_nar b1) (fun t ht hW => ⟨⟨z0, (), rfl, ⟨rfl, rfl⟩, by rw [ht]; exact hP9, va_K.moved hW.alike hK, hD9⟩, hS.F ht⟩) hS.2.2 dX10_isNode_15
  have J14 : ∀ (H : Heap) (locs : List Loc) (ls : Array Slot), va_P (dC, dI) vwCl [] H → va_D A [] → va_S A s.heap H locs → lv_has ls 1 [] → fX10_isNode_p14    = some o → G 0 0 H locs (F0 m 14 ls []) := by
    intro   H locs ls hP hD hS hl hf
    refine (hG _ _ _ _ _).mpr ?_
    unfold fX10_isNode_p14 at hf
    refine lv_iconst (v := 0) hx hb dX10_isNode_14 (by decide +kernel) ?_
    exact (hG _ _ _ _ _).mp (J15 0 H locs ls (hP.sub [] rfl) (hD.sub [] (by decide) rfl) hS (lv_sub hl [] rfl) hf)
  refine (hG _ _ _ _ _).mpr ?_
  obtain ⟨H, hH⟩ : ∃ H, H = s.heap := ⟨_, rfl⟩
  have hS : va_S A s.heap H [] := by rw [hH]; exact hS
  rw [← hH] at hP ⊢
  generalize ([] : List Loc) = locs at hS ⊢
  unfold fX10_isNode at hf
  refine lv_iload_n hx hb dX10_isNode_0 rfl (lv_at hl 0 rfl) ?_
  refine lv_if_lt (tgt := 14) hx hb dX10_isNode_1 (by decide) (fun q2 => ?_) (fun q2 => ?_)
  · replace hf := if_at hf q2
    exact (hG _ _ _ _ _).mp (J14 H locs ls (hP.sub [] rfl) (hD.sub [] (by decide) rfl) hS (lv_sub hl [] rfl) hf)
  · replace hf := if_no hf q2
    refine lv_iload_n hx hb dX10_isNode_4 rfl (lv_at hl 0 rfl) ?_
    refine lv_bipush (v := 16) hx hb dX10_isNode_5 (by decide +kernel) ?_
    refine lv_icmp_ge (tgt := 14) hx hb dX10_isNode_7 (by decide) (fun q3 => ?_) (fun q3 => ?_)
    · replace hf := if_at hf q3
      exact (hG _ _ _ _ _).mp (J14 H locs ls (hP.sub [] rfl) (hD.sub [] (by decide) rfl) hS (lv_sub hl [] rfl) hf)
    · replace hf := if_no hf q3
      refine lv_iconst (v := 1) hx hb dX10_isNode_10 (by decide +kernel) ?_
      refine lv_goto (tgt := 15) hx hb dX10_isNode_11 (by decide) ?_
      exact (hG _ _ _ _ _).mp (J15 1 H locs ls (hP.sub [] rfl) (hD.sub [] (by decide) rfl) hS (lv_sub hl [] rfl) hf)
set_option maxHeartbeats 4000000 in
set_option maxRecDepth 100000 in
theorem mX10_isSign (l : Launch) (dC : Nat → ClassId) (dI : Nat → Nat → Nat) (sz base : Nat) (a0 : Int32) (o : Int32 × Unit) (hf : fX10_isSign a0 = some o) : Met l yX10_isSign (.code yX10_isSign cX10_isSign 1 (some .boolean) :: wsL_law) ({ frames := 0, cells := 0, slots := 0, locals := 0 }) (cPre (dC, dI) vwCl [.int a0] sz base [] []) (va_Qi (fun r u => r = o.1 ∧ u = o.2) (fun (u : Unit) t => cPost (dC, dI) vwCl (va_A [] sz) [] [] t) (va_A [] sz)) 0 0 (va_A [] sz) := by
  refine Met.ofW (cc := cX10_isSign) (maxL := 1) (ret := (some .boolean)) (by decide) rfl ?_
  intro p e s m args below meth c s₁ B hml hv
  obtain ⟨rfl, hsz, hP, hK, hD0, hE⟩ := hv
  have hx := B.exec
  have hb := B.bytes
  have hr := B.returns
  have hts : ∀ w ∈ wsL_law, _ := fun w h => atoms_spec (ws := .code yX10_isSign cX10_isSign 1 (some .boolean) :: wsL_law) B.pre w (List.mem_cons_of_mem _ h)
  have hown : s.vm.findClass RX10 = some m.cls := findClass_of_methodNamed B.named
  have hlocks := B.notSynchronized
  skip
  subst hsz
  have hD := hD0.self (sz := s.heap.size)
  generalize hAe : va_A [] s.heap.size = A at hD ⊢
  have hA : ∀ q : Nat, s.heap.size ≤ q → A q := fun q h => by rw [← hAe]; exact Or.inr h
  have hAB : ∀ q : Nat, A q → base ≤ q := fun q h => by rw [← hAe] at h; exact h.elim (fun ⟨k, e, hk⟩ => hD0.2 k _ hk) (fun hk => Nat.le_trans hE.1 hk)
  have hS : va_S A s.heap s.heap [] := va_S.rf
  have hl := lv_entry ([.int a0]) (n := 1) (Nat.le_of_ble_eq_true rfl)
  rw [lg_entry_eq]
  generalize (lg_sl ([.int a0]) ++ List.replicate (1 - (lg_sl ([.int a0])).length) Slot.unset).toArray = ls at hl ⊢
  have hl : lv_has ls 1 [(0, .int a0)] := hl
  have hP : va_P (dC, dI) vwCl [] s.heap := hP
  refine gl_intro (fun G hG => ?_)
  have J15 : ∀ (z0 : Int32) (H : Heap) (locs : List Loc) (ls : Array Slot), va_P (dC, dI) vwCl [] H → va_D A [] → va_S A s.heap H locs → lv_has ls 1 [] → fX10_isSign_p15   z0 = some o → G 0 0 H locs (F0 m 15 ls [.int z0]) := by
    intro  z0 H locs ls hP hD hS hl hf
    refine (hG _ _ _ _ _).mpr ?_
    unfold fX10_isSign_p15 at hf
    have b1 := bd_b hf
    replace hf := bd_k hf
    have hf1 := Option.some.inj hf
    subst hf1
    have hP9 := hP.sub (ws' := []) [] rfl
    have hD9 := hD.sub (ws' := []) [] (by decide) rfl
    exact W.zret (v := z0) (ty := .boolean) hx hb hr (bz_nar b1) (fun t ht hW => ⟨⟨z0, (), rfl, ⟨rfl, rfl⟩, by rw [ht]; exact hP9, va_K.moved hW.alike hK, hD9⟩, hS.F ht⟩) hS.2.2 dX10_isSign_15
  have J14 : ∀ (H : Heap) (locs : List Loc) (ls : Array Slot), va_P (dC, dI) vwCl [] H → va_D A [] → va_S A s.heap H locs → lv_has ls 1 [] → fX10_isSign_p14    = some o → G 0 0 H locs (F0 m 14 ls []) := by
    intro   H locs ls hP hD hS hl hf
    refine (hG _ _ _ _ _).mpr ?_
    unfold fX10_isSign_p14 at hf
    refine lv_iconst (v := 0) hx hb dX10_isSign_14 (by decide +kernel) ?_
    exact (hG _ _ _ _ _).mp (J15 0 H locs ls (hP.sub [] rfl) (hD.sub [] (by decide) rfl) hS (lv_sub hl [] rfl) hf)
  refine (hG _ _ _ _ _).mpr ?_
  obtain ⟨H, hH⟩ : ∃ H, H = s.heap := ⟨_, rfl⟩
  have hS : va_S A s.heap H [] := by rw [hH]; exact hS
  rw [← hH] at hP ⊢
  generalize ([] : List Loc) = locs at hS ⊢
  unfold fX10_isSign at hf
  refine lv_iload_n hx hb dX10_isSign_0 rfl (lv_at hl 0 rfl) ?_
  refine lv_if_lt (tgt := 14) hx hb dX10_isSign_1 (by decide) (fun q2 => ?_) (fun q2 => ?_)
  · replace hf := if_at hf q2
    exact (hG _ _ _ _ _).mp (J14 H locs ls (hP.sub [] rfl) (hD.sub [] (by decide) rfl) hS (lv_sub hl [] rfl) hf)
  · replace hf := if_no hf q2
    refine lv_iload_n hx hb dX10_isSign_4 rfl (lv_at hl 0 rfl) ?_
    refine lv_bipush (v := 12) hx hb dX10_isSign_5 (by decide +kernel) ?_
    refine lv_icmp_ge (tgt := 14) hx hb dX10_isSign_7 (by decide) (fun q3 => ?_) (fun q3 => ?_)
    · replace hf := if_at hf q3
      exact (hG _ _ _ _ _).mp (J14 H locs ls (hP.sub [] rfl) (hD.sub [] (by decide) rfl) hS (lv_sub hl [] rfl) hf)
    · replace hf := if_no hf q3
      refine lv_iconst (v := 1) hx hb dX10_isSign_10 (by decide +kernel) ?_
      refine lv_goto (tgt := 15) hx hb dX10_isSign_11 (by decide) ?_
      exact (hG _ _ _ _ _).mp (J15 1 H locs ls (hP.sub [] rfl) (hD.sub [] (by decide) rfl) hS (lv_sub hl [] rfl) hf)
set_option maxHeartbeats 4000000 in
set_option maxRecDepth 100000 in
theorem mX10_isState (l : Launch) (dC : Nat → ClassId) (dI : Nat → Nat → Nat) (sz base : Nat) (a0 : Int32) (o : Int32 × Unit) (hf : fX10_isState a0 = some o) : Met l yX10_isState (.code yX10_isState cX10_isState 1 (some .boolean) :: wsL_law) ({ frames := 0, cells := 0, slots := 0, locals := 0 }) (cPre (dC, dI) vwCl [.int a0] sz base [] []) (va_Qi (fun r u => r = o.1 ∧ u = o.2) (fun (u : Unit) t => cPost (dC, dI) vwCl (va_A [] sz) [] [] t) (va_A [] sz)) 0 0 (va_A [] sz) := by
  refine Met.ofW (cc := cX10_isState) (maxL := 1) (ret := (some .boolean)) (by decide) rfl ?_
  intro p e s m args below meth c s₁ B hml hv
  obtain ⟨rfl, hsz, hP, hK, hD0, hE⟩ := hv
  have hx := B.exec
  have hb := B.bytes
  have hr := B.returns
  have hts : ∀ w ∈ wsL_law, _ := fun w h => atoms_spec (ws := .code yX10_isState cX10_isState 1 (some .boolean) :: wsL_law) B.pre w (List.mem_cons_of_mem _ h)
  have hown : s.vm.findClass RX10 = some m.cls := findClass_of_methodNamed B.named
  have hlocks := B.notSynchronized
  skip
  subst hsz
  have hD := hD0.self (sz := s.heap.size)
  generalize hAe : va_A [] s.heap.size = A at hD ⊢
  have hA : ∀ q : Nat, s.heap.size ≤ q → A q := fun q h => by rw [← hAe]; exact Or.inr h
  have hAB : ∀ q : Nat, A q → base ≤ q := fun q h => by rw [← hAe] at h; exact h.elim (fun ⟨k, e, hk⟩ => hD0.2 k _ hk) (fun hk => Nat.le_trans hE.1 hk)
  have hS : va_S A s.heap s.heap [] := va_S.rf
  have hl := lv_entry ([.int a0]) (n := 1) (Nat.le_of_ble_eq_true rfl)
  rw [lg_entry_eq]
  generalize (lg_sl ([.int a0]) ++ List.replicate (1 - (lg_sl ([.int a0])).length) Slot.unset).toArray = ls at hl ⊢
  have hl : lv_has ls 1 [(0, .int a0)] := hl
  have hP : va_P (dC, dI) vwCl [] s.heap := hP
  refine gl_intro (fun G hG => ?_)
  have J15 : ∀ (z0 : Int32) (H : Heap) (locs : List Loc) (ls : Array Slot), va_P (dC, dI) vwCl [] H → va_D A [] → va_S A s.heap H locs → lv_has ls 1 [] → fX10_isState_p15   z0 = some o → G 0 0 H locs (F0 m 15 ls [.int z0]) := by
    intro  z0 H locs ls hP hD hS hl hf
    refine (hG _ _ _ _ _).mpr ?_
    unfold fX10_isState_p15 at hf
    have b1 := bd_b hf
    replace hf := bd_k hf
    have hf1 := Option.some.inj hf
    subst hf1
    have hP9 := hP.sub (ws' := []) [] rfl
    have hD9 := hD.sub (ws' := []) [] (by decide) rfl
    exact W.zret (v := z0) (ty := .boolean) hx hb hr (bz_nar b1) (fun t ht hW => ⟨⟨z0, (), rfl, ⟨rfl, rfl⟩, by rw [ht]; exact hP9, va_K.moved hW.alike hK, hD9⟩, hS.F ht⟩) hS.2.2 dX10_isState_15
  have J14 : ∀ (H : Heap) (locs : List Loc) (ls : Array Slot), va_P (dC, dI) vwCl [] H → va_D A [] → va_S A s.heap H locs → lv_has ls 1 [] → fX10_isState_p14    = some o → G 0 0 H locs (F0 m 14 ls []) := by
    intro   H locs ls hP hD hS hl hf
    refine (hG _ _ _ _ _).mpr ?_
    unfold fX10_isState_p14 at hf
    refine lv_iconst (v := 0) hx hb dX10_isState_14 (by decide +kernel) ?_
    exact (hG _ _ _ _ _).mp (J15 0 H locs ls (hP.sub [] rfl) (hD.sub [] (by decide) rfl) hS (lv_sub hl [] rfl) hf)
  refine (hG _ _ _ _ _).mpr ?_
  obtain ⟨H, hH⟩ : ∃ H, H = s.heap := ⟨_, rfl⟩
  have hS : va_S A s.heap H [] := by rw [hH]; exact hS
  rw [← hH] at hP ⊢
  generalize ([] : List Loc) = locs at hS ⊢
  unfold fX10_isState at hf
  refine lv_iload_n hx hb dX10_isState_0 rfl (lv_at hl 0 rfl) ?_
  refine lv_if_lt (tgt := 14) hx hb dX10_isState_1 (by decide) (fun q2 => ?_) (fun q2 => ?_)
  · replace hf := if_at hf q2
    exact (hG _ _ _ _ _).mp (J14 H locs ls (hP.sub [] rfl) (hD.sub [] (by decide) rfl) hS (lv_sub hl [] rfl) hf)
  · replace hf := if_no hf q2
    refine lv_iload_n hx hb dX10_isState_4 rfl (lv_at hl 0 rfl) ?_
    refine lv_bipush (v := 8) hx hb dX10_isState_5 (by decide +kernel) ?_
    refine lv_icmp_ge (tgt := 14) hx hb dX10_isState_7 (by decide) (fun q3 => ?_) (fun q3 => ?_)
    · replace hf := if_at hf q3
      exact (hG _ _ _ _ _).mp (J14 H locs ls (hP.sub [] rfl) (hD.sub [] (by decide) rfl) hS (lv_sub hl [] rfl) hf)
    · replace hf := if_no hf q3
      refine lv_iconst (v := 1) hx hb dX10_isState_10 (by decide +kernel) ?_
      refine lv_goto (tgt := 15) hx hb dX10_isState_11 (by decide) ?_
      exact (hG _ _ _ _ _).mp (J15 1 H locs ls (hP.sub [] rfl) (hD.sub [] (by decide) rfl) hS (lv_sub hl [] rfl) hf)
