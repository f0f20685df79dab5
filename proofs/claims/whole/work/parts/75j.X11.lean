set_option maxHeartbeats 4000000 in
set_option maxRecDepth 100000 in
theorem mX11_place (l : Launch) (dC : Nat → ClassId) (dI : Nat → Nat → Nat) (h0 : Nat) (sz : Nat) (base : Nat × Nat × Nat) (v0_thrown : Int32) (v0_wrongAt : Int32) (V0 : Nat → Value) (o : Int32 × Int32) (hf : fX11_place v0_thrown v0_wrongAt = some o) : Met l yX11_place (.code yX11_place cX11_place 1 (some .int) :: wsL_law) ({ frames := 0, cells := 0, slots := 0, locals := 0 }) (cPre (dC, dI) vwCl [.ref h0] sz base [(h0, .inr (11, [.int v0_thrown, V0 1, V0 2, V0 3, V0 4, V0 5, V0 6, V0 7, V0 8, V0 9, V0 10, V0 11, V0 12, V0 13, V0 14, V0 15, V0 16, V0 17, V0 18, V0 19, V0 20, V0 21, V0 22, V0 23, V0 24, V0 25, .int v0_wrongAt, V0 27, V0 28, V0 29, V0 30, V0 31, V0 32, V0 33, V0 34, V0 35, V0 36, V0 37, V0 38, V0 39, V0 40, V0 41, V0 42, V0 43, V0 44, V0 45, V0 46, V0 47, V0 48, V0 49, V0 50, V0 51, V0 52, V0 53, V0 54, V0 55, V0 56, V0 57, V0 58, V0 59, V0 60, V0 61, V0 62, V0 63, V0 64, V0 65, V0 66, V0 67, V0 68, V0 69, V0 70]))] []) (va_Qi (fun r u => r = o.1 ∧ u = o.2) (fun (u : Int32) t => cPost (dC, dI) vwCl (va_A [(h0, .inr (11, [.int v0_thrown, V0 1, V0 2, V0 3, V0 4, V0 5, V0 6, V0 7, V0 8, V0 9, V0 10, V0 11, V0 12, V0 13, V0 14, V0 15, V0 16, V0 17, V0 18, V0 19, V0 20, V0 21, V0 22, V0 23, V0 24, V0 25, .int v0_wrongAt, V0 27, V0 28, V0 29, V0 30, V0 31, V0 32, V0 33, V0 34, V0 35, V0 36, V0 37, V0 38, V0 39, V0 40, V0 41, V0 42, V0 43, V0 44, V0 45, V0 46, V0 47, V0 48, V0 49, V0 50, V0 51, V0 52, V0 53, V0 54, V0 55, V0 56, V0 57, V0 58, V0 59, V0 60, V0 61, V0 62, V0 63, V0 64, V0 65, V0 66, V0 67, V0 68, V0 69, V0 70]))] sz) [(h0, .inr (11, [.int u, V0 1, V0 2, V0 3, V0 4, V0 5, V0 6, V0 7, V0 8, V0 9, V0 10, V0 11, V0 12, V0 13, V0 14, V0 15, V0 16, V0 17, V0 18, V0 19, V0 20, V0 21, V0 22, V0 23, V0 24, V0 25, .int v0_wrongAt, V0 27, V0 28, V0 29, V0 30, V0 31, V0 32, V0 33, V0 34, V0 35, V0 36, V0 37, V0 38, V0 39, V0 40, V0 41, V0 42, V0 43, V0 44, V0 45, V0 46, V0 47, V0 48, V0 49, V0 50, V0 51, V0 52, V0 53, V0 54, V0 55, V0 56, V0 57, V0 58, V0 59, V0 60, V0 61, V0 62, V0 63, V0 64, V0 65, V0 66, V0 67, V0 68, V0 69, V0 70]))] [] t) (va_A [(h0, .inr (11, [.int v0_thrown, V0 1, V0 2, V0 3, V0 4, V0 5, V0 6, V0 7, V0 8, V0 9, V0 10, V0 11, V0 12, V0 13, V0 14, V0 15, V0 16, V0 17, V0 18, V0 19, V0 20, V0 21, V0 22, V0 23, V0 24, V0 25, .int v0_wrongAt, V0 27, V0 28, V0 29, V0 30, V0 31, V0 32, V0 33, V0 34, V0 35, V0 36, V0 37, V0 38, V0 39, V0 40, V0 41, V0 42, V0 43, V0 44, V0 45, V0 46, V0 47, V0 48, V0 49, V0 50, V0 51, V0 52, V0 53, V0 54, V0 55, V0 56, V0 57, V0 58, V0 59, V0 60, V0 61, V0 62, V0 63, V0 64, V0 65, V0 66, V0 67, V0 68, V0 69, V0 70]))] sz)) 0 0 (va_A [(h0, .inr (11, [.int v0_thrown, V0 1, V0 2, V0 3, V0 4, V0 5, V0 6, V0 7, V0 8, V0 9, V0 10, V0 11, V0 12, V0 13, V0 14, V0 15, V0 16, V0 17, V0 18, V0 19, V0 20, V0 21, V0 22, V0 23, V0 24, V0 25, .int v0_wrongAt, V0 27, V0 28, V0 29, V0 30, V0 31, V0 32, V0 33, V0 34, V0 35, V0 36, V0 37, V0 38, V0 39, V0 40, V0 41, V0 42, V0 43, V0 44, V0 45, V0 46, V0 47, V0 48, V0 49, V0 50, V0 51, V0 52, V0 53, V0 54, V0 55, V0 56, V0 57, V0 58, V0 59, V0 60, V0 61, V0 62, V0 63, V0 64, V0 65, V0 66, V0 67, V0 68, V0 69, V0 70]))] sz) := by
  refine Met.ofW (cc := cX11_place) (maxL := 1) (ret := (some .int)) (by decide) rfl ?_
  intro p e s m args below meth c s₁ B hml hv
  obtain ⟨rfl, hsz, hP, hK, hD0, hE⟩ := hv
  have hx := B.exec
  have hb := B.bytes
  have hr := B.returns
  have hts : ∀ w ∈ wsL_law, _ := fun w h => atoms_spec (ws := .code yX11_place cX11_place 1 (some .int) :: wsL_law) B.pre w (List.mem_cons_of_mem _ h)
  have hown : s.vm.findClass RX11 = some m.cls := findClass_of_methodNamed B.named
  have hlocks := B.notSynchronized
  have w0_ := hts _ q146
  have w1_ := hts _ q95
  subst hsz
  have hD := hD0.self (sz := s.heap.size)
  generalize hAe : va_A [(h0, .inr (11, [.int v0_thrown, V0 1, V0 2, V0 3, V0 4, V0 5, V0 6, V0 7, V0 8, V0 9, V0 10, V0 11, V0 12, V0 13, V0 14, V0 15, V0 16, V0 17, V0 18, V0 19, V0 20, V0 21, V0 22, V0 23, V0 24, V0 25, .int v0_wrongAt, V0 27, V0 28, V0 29, V0 30, V0 31, V0 32, V0 33, V0 34, V0 35, V0 36, V0 37, V0 38, V0 39, V0 40, V0 41, V0 42, V0 43, V0 44, V0 45, V0 46, V0 47, V0 48, V0 49, V0 50, V0 51, V0 52, V0 53, V0 54, V0 55, V0 56, V0 57, V0 58, V0 59, V0 60, V0 61, V0 62, V0 63, V0 64, V0 65, V0 66, V0 67, V0 68, V0 69, V0 70]))] s.heap.size = A at hD ⊢
  have hA : ∀ q : Nat, s.heap.size ≤ q → A q := fun q h => by rw [← hAe]; exact Or.inr h
  have hAB : ∀ q : Nat, A q → base.1 ≤ q := fun q h => by rw [← hAe] at h; exact h.elim (fun ⟨k, e, hk⟩ => hD0.2 k _ hk) (fun hk => Nat.le_trans hE.1 hk)
  have hS : va_S A s.heap s.heap [] := va_S.rf
  have hl := lv_entry ([.ref h0]) (n := 1) (Nat.le_of_ble_eq_true rfl)
  rw [lg_entry_eq]
  generalize (lg_sl ([.ref h0]) ++ List.replicate (1 - (lg_sl ([.ref h0])).length) Slot.unset).toArray = ls at hl ⊢
  have hl : lv_has ls 1 [(0, .ref h0)] := hl
  have hP : va_P (dC, dI) vwCl [(h0, .inr (11, [.int v0_thrown, V0 1, V0 2, V0 3, V0 4, V0 5, V0 6, V0 7, V0 8, V0 9, V0 10, V0 11, V0 12, V0 13, V0 14, V0 15, V0 16, V0 17, V0 18, V0 19, V0 20, V0 21, V0 22, V0 23, V0 24, V0 25, .int v0_wrongAt, V0 27, V0 28, V0 29, V0 30, V0 31, V0 32, V0 33, V0 34, V0 35, V0 36, V0 37, V0 38, V0 39, V0 40, V0 41, V0 42, V0 43, V0 44, V0 45, V0 46, V0 47, V0 48, V0 49, V0 50, V0 51, V0 52, V0 53, V0 54, V0 55, V0 56, V0 57, V0 58, V0 59, V0 60, V0 61, V0 62, V0 63, V0 64, V0 65, V0 66, V0 67, V0 68, V0 69, V0 70]))] s.heap := hP
  obtain ⟨H, hH⟩ : ∃ H, H = s.heap := ⟨_, rfl⟩
  have hS : va_S A s.heap H [] := by rw [hH]; exact hS
  rw [← hH] at hP ⊢
  generalize ([] : List Loc) = locs at hS ⊢
  unfold fX11_place at hf
  refine lv_aload_n hx hb dX11_place_0 rfl (lv_at hl 0 rfl) ?_
  refine lv_iconst (v := 0) hx hb dX11_place_1 (by decide +kernel) ?_
  refine va_put (D := (dC, dI)) (ci := 11) (v := .int 0) (ty := .int) (C := RX11) (T := TX11) (N := 71) hx hb hts inlX11 tyX11 tyX11_ok nmX11 hown hK hP hD hS 0 rfl rfl 0 (by decide) w0_ (fun _ h9 => h9) rfl (by decide +kernel) rfl rfl (Nat.le_of_ble_eq_true rfl) dX11_place_2 (fun H locs hP hD hS => ?_)
  have hP : va_P (dC, dI) vwCl [(h0, .inr (11, [.int 0, V0 1, V0 2, V0 3, V0 4, V0 5, V0 6, V0 7, V0 8, V0 9, V0 10, V0 11, V0 12, V0 13, V0 14, V0 15, V0 16, V0 17, V0 18, V0 19, V0 20, V0 21, V0 22, V0 23, V0 24, V0 25, .int v0_wrongAt, V0 27, V0 28, V0 29, V0 30, V0 31, V0 32, V0 33, V0 34, V0 35, V0 36, V0 37, V0 38, V0 39, V0 40, V0 41, V0 42, V0 43, V0 44, V0 45, V0 46, V0 47, V0 48, V0 49, V0 50, V0 51, V0 52, V0 53, V0 54, V0 55, V0 56, V0 57, V0 58, V0 59, V0 60, V0 61, V0 62, V0 63, V0 64, V0 65, V0 66, V0 67, V0 68, V0 69, V0 70]))] H := hP
  have hD : va_D A [(h0, .inr (11, [.int 0, V0 1, V0 2, V0 3, V0 4, V0 5, V0 6, V0 7, V0 8, V0 9, V0 10, V0 11, V0 12, V0 13, V0 14, V0 15, V0 16, V0 17, V0 18, V0 19, V0 20, V0 21, V0 22, V0 23, V0 24, V0 25, .int v0_wrongAt, V0 27, V0 28, V0 29, V0 30, V0 31, V0 32, V0 33, V0 34, V0 35, V0 36, V0 37, V0 38, V0 39, V0 40, V0 41, V0 42, V0 43, V0 44, V0 45, V0 46, V0 47, V0 48, V0 49, V0 50, V0 51, V0 52, V0 53, V0 54, V0 55, V0 56, V0 57, V0 58, V0 59, V0 60, V0 61, V0 62, V0 63, V0 64, V0 65, V0 66, V0 67, V0 68, V0 69, V0 70]))] := hD
  refine lv_aload_n hx hb dX11_place_5 rfl (lv_at hl 0 rfl) ?_
  refine va_get (D := (dC, dI)) (ci := 11) (v := .int v0_wrongAt) (C := RX11) (T := TX11) (N := 71) hx hb hts inlX11 hown hK hP 0 rfl rfl 26 (by decide) w1_ (fun _ h9 => h9) rfl dX11_place_6 ?_
  have hf1 := Option.some.inj hf
  subst hf1
  have hP9 := hP.sub (ws' := [(h0, .inr (11, [.int 0, V0 1, V0 2, V0 3, V0 4, V0 5, V0 6, V0 7, V0 8, V0 9, V0 10, V0 11, V0 12, V0 13, V0 14, V0 15, V0 16, V0 17, V0 18, V0 19, V0 20, V0 21, V0 22, V0 23, V0 24, V0 25, .int v0_wrongAt, V0 27, V0 28, V0 29, V0 30, V0 31, V0 32, V0 33, V0 34, V0 35, V0 36, V0 37, V0 38, V0 39, V0 40, V0 41, V0 42, V0 43, V0 44, V0 45, V0 46, V0 47, V0 48, V0 49, V0 50, V0 51, V0 52, V0 53, V0 54, V0 55, V0 56, V0 57, V0 58, V0 59, V0 60, V0 61, V0 62, V0 63, V0 64, V0 65, V0 66, V0 67, V0 68, V0 69, V0 70]))]) [0] rfl
  have hD9 := hD.sub (ws' := [(h0, .inr (11, [.int 0, V0 1, V0 2, V0 3, V0 4, V0 5, V0 6, V0 7, V0 8, V0 9, V0 10, V0 11, V0 12, V0 13, V0 14, V0 15, V0 16, V0 17, V0 18, V0 19, V0 20, V0 21, V0 22, V0 23, V0 24, V0 25, .int v0_wrongAt, V0 27, V0 28, V0 29, V0 30, V0 31, V0 32, V0 33, V0 34, V0 35, V0 36, V0 37, V0 38, V0 39, V0 40, V0 41, V0 42, V0 43, V0 44, V0 45, V0 46, V0 47, V0 48, V0 49, V0 50, V0 51, V0 52, V0 53, V0 54, V0 55, V0 56, V0 57, V0 58, V0 59, V0 60, V0 61, V0 62, V0 63, V0 64, V0 65, V0 66, V0 67, V0 68, V0 69, V0 70]))]) [0] (by decide) rfl
  exact W.iret (v := v0_wrongAt) hx hb hr (fun t ht hW => ⟨⟨v0_wrongAt, 0, rfl, ⟨rfl, rfl⟩, by rw [ht]; exact hP9, va_K.moved hW.alike hK, hD9⟩, hS.F ht⟩) hS.2.2 dX11_place_9
abbrev wX11_push (h0 h1 : Nat) (kc1 : ClassId) (V0 : Nat → Value) (v0_thrown : Int32) (v0_size : Int32) (v0_wayState : Int32) (c1 : Nat → Int32) : va_W := [(h0, .inr (11, [.int v0_thrown, V0 1, V0 2, V0 3, V0 4, V0 5, .int v0_size, .ref h1, V0 8, V0 9, .int v0_wayState, V0 11, V0 12, V0 13, V0 14, V0 15, V0 16, V0 17, V0 18, V0 19, V0 20, V0 21, V0 22, V0 23, V0 24, V0 25, V0 26, V0 27, V0 28, V0 29, V0 30, V0 31, V0 32, V0 33, V0 34, V0 35, V0 36, V0 37, V0 38, V0 39, V0 40, V0 41, V0 42, V0 43, V0 44, V0 45, V0 46, V0 47, V0 48, V0 49, V0 50, V0 51, V0 52, V0 53, V0 54, V0 55, V0 56, V0 57, V0 58, V0 59, V0 60, V0 61, V0 62, V0 63, V0 64, V0 65, V0 66, V0 67, V0 68, V0 69, V0 70])), (h1, .inl (kc1, 30, .inl c1))]
set_option maxHeartbeats 4000000 in
set_option maxRecDepth 100000 in
theorem mX11_push (l : Launch) (dC : Nat → ClassId) (dI : Nat → Nat → Nat) (h0 h1 : Nat) (kc1 : ClassId) (sz : Nat) (base : Nat × Nat × Nat) (a0 : Int32) (v0_thrown : Int32) (v0_size : Int32) (v0_wayState : Int32) (c1 : Nat → Int32) (V0 : Nat → Value) (o : Int32 × Int32 × Int32 × Int32 × (Nat → Int32)) (hf : fX11_push a0 v0_thrown v0_size v0_wayState c1 = some o) : Met l yX11_push (.code yX11_push cX11_push 2 (some .int) :: wsL_law) ({ frames := 1, cells := 0, slots := 0, locals := 22 }) (cPre (dC, dI) vwCl [.ref h0, .int a0] sz base (wX11_push h0 h1 kc1 V0 v0_thrown v0_size v0_wayState c1) [(kc1, .int)]) (va_Qi (fun r u => r = o.1 ∧ u = o.2) (fun (u : Int32 × Int32 × Int32 × (Nat → Int32)) t => cPost (dC, dI) vwCl (va_A (wX11_push h0 h1 kc1 V0 v0_thrown v0_size v0_wayState c1) sz) (wX11_push h0 h1 kc1 V0 u.1 u.2.1 u.2.2.1 u.2.2.2) [(kc1, .int)] t) (va_A (wX11_push h0 h1 kc1 V0 v0_thrown v0_size v0_wayState c1) sz)) 0 0 (va_A (wX11_push h0 h1 kc1 V0 v0_thrown v0_size v0_wayState c1) sz) := by
  refine Met.ofW (cc := cX11_push) (maxL := 2) (ret := (some .int)) (by decide) rfl ?_
  intro p e s m args below meth c s₁ B hml hv
  obtain ⟨rfl, hsz, hP, hK, hD0, hE⟩ := hv
  have hx := B.exec
  have hb := B.bytes
  have hr := B.returns
  have hts : ∀ w ∈ wsL_law, _ := fun w h => atoms_spec (ws := .code yX11_push cX11_push 2 (some .int) :: wsL_law) B.pre w (List.mem_cons_of_mem _ h)
  have hown : s.vm.findClass RX11 = some m.cls := findClass_of_methodNamed B.named
  have hlocks := B.notSynchronized
  have w0_ := hts _ q146
  have w1_ := hts _ q216
  have w2_ := hts _ q82
  have w3_ := hts _ q84
  subst hsz
  have hD := hD0.self (sz := s.heap.size)
  generalize hAe : va_A (wX11_push h0 h1 kc1 V0 v0_thrown v0_size v0_wayState c1) s.heap.size = A at hD ⊢
  have hA : ∀ q : Nat, s.heap.size ≤ q → A q := fun q h => by rw [← hAe]; exact Or.inr h
  have hAB : ∀ q : Nat, A q → base.1 ≤ q := fun q h => by rw [← hAe] at h; exact h.elim (fun ⟨k, e, hk⟩ => hD0.2 k _ hk) (fun hk => Nat.le_trans hE.1 hk)
  have hS : va_S A s.heap s.heap [] := va_S.rf
  have hl := lv_entry ([.ref h0, .int a0]) (n := 2) (Nat.le_of_ble_eq_true rfl)
  rw [lg_entry_eq]
  generalize (lg_sl ([.ref h0, .int a0]) ++ List.replicate (2 - (lg_sl ([.ref h0, .int a0])).length) Slot.unset).toArray = ls at hl ⊢
  have hl : lv_has ls 2 [(0, .ref h0), (1, .int a0)] := hl
  have hP : va_P (dC, dI) vwCl (wX11_push h0 h1 kc1 V0 v0_thrown v0_size v0_wayState c1) s.heap := hP
  obtain ⟨H, hH⟩ : ∃ H, H = s.heap := ⟨_, rfl⟩
  have hS : va_S A s.heap H [] := by rw [hH]; exact hS
  rw [← hH] at hP ⊢
  generalize ([] : List Loc) = locs at hS ⊢
  unfold fX11_push at hf
  refine lv_aload_n hx hb dX11_push_0 rfl (lv_at hl 0 rfl) ?_
  refine lv_iconst (v := 0) hx hb dX11_push_1 (by decide +kernel) ?_
  refine va_put (D := (dC, dI)) (ci := 11) (v := .int 0) (ty := .int) (C := RX11) (T := TX11) (N := 71) hx hb hts inlX11 tyX11 tyX11_ok nmX11 hown hK hP hD hS 0 rfl rfl 0 (by decide) w0_ (fun _ h9 => h9) rfl (by decide +kernel) rfl rfl (Nat.le_of_ble_eq_true rfl) dX11_push_2 (fun H locs hP hD hS => ?_)
  have hP : va_P (dC, dI) vwCl (wX11_push h0 h1 kc1 V0 0 v0_size v0_wayState c1) H := hP
  have hD : va_D A (wX11_push h0 h1 kc1 V0 0 v0_size v0_wayState c1) := hD
  refine lv_iload_n hx hb dX11_push_5 rfl (lv_at hl 1 rfl) ?_
  refine lv_iconst (v := 0) hx hb dX11_push_6 (by decide +kernel) ?_
  refine lv_bipush (v := 11) hx hb dX11_push_7 (by decide +kernel) ?_
  obtain ⟨o1, e1, hf⟩ := ob_some hf
  refine kSi (As := [.int a0, .int 0, .int 11]) (rest := []) ⟨hx, hb, hml, hown, hts⟩ (mX11_in l dC dI H.size base a0 0 11 o1 e1) (va_cwS 3 hts (gTS q148 q149 q5 q150) rfl rfl rfl (by decide +kernel) ⟨Nat.le_of_ble_eq_true rfl, Nat.le_of_ble_eq_true rfl⟩) hK hP hD hS hA hE hAB [] [0, 1] [] (wr := (wX11_push h0 h1 kc1 V0 0 v0_size v0_wayState c1)) rfl rfl (by decide) (by decide) (by decide) rfl rfl hl.1 rfl (Nat.le_of_ble_eq_true rfl) dX11_push_9 ⟨Nat.zero_le _, Nat.zero_le _⟩ (fun r1 u1 H locs hw1 hP hD hS => ?_)
  obtain ⟨hw11, hw12⟩ := hw1
  subst hw11 hw12
  have hP : va_P (dC, dI) vwCl (wX11_push h0 h1 kc1 V0 0 v0_size v0_wayState c1) H := hP.sub [0, 1] rfl
  have hD : va_D A (wX11_push h0 h1 kc1 V0 0 v0_size v0_wayState c1) := hD.sub [0, 1] (by decide) rfl
  refine lv_if_ne (tgt := 18) hx hb dX11_push_12 (by decide) (fun cq2 => ?_) (fun cq2 => ?_)
  · replace hf := if_no hf cq2
    refine lv_aload_n hx hb dX11_push_18 rfl (lv_at hl 0 rfl) ?_
    refine va_get (D := (dC, dI)) (ci := 11) (v := .int v0_size) (C := RX11) (T := TX11) (N := 71) hx hb hts inlX11 hown hK hP 0 rfl rfl 6 (by decide) w1_ (fun _ h9 => h9) rfl dX11_push_19 ?_
    refine lv_bipush (v := 30) hx hb dX11_push_22 (by decide +kernel) ?_
    refine lv_icmp_ne (tgt := 30) hx hb dX11_push_24 (by decide) (fun cq3 => ?_) (fun cq3 => ?_)
    · replace hf := if_no hf cq3
      refine lv_aload_n hx hb dX11_push_30 rfl (lv_at hl 0 rfl) ?_
      refine va_get (D := (dC, dI)) (ci := 11) (v := .ref h1) (C := RX11) (T := TX11) (N := 71) hx hb hts inlX11 hown hK hP 0 rfl rfl 7 (by decide) w2_ (fun _ h9 => h9) rfl dX11_push_31 ?_
      refine lv_aload_n hx hb dX11_push_34 rfl (lv_at hl 0 rfl) ?_
      refine va_get (D := (dC, dI)) (ci := 11) (v := .int v0_size) (C := RX11) (T := TX11) (N := 71) hx hb hts inlX11 hown hK hP 0 rfl rfl 6 (by decide) w1_ (fun _ h9 => h9) rfl dX11_push_35 ?_
      refine lv_iload_n hx hb dX11_push_38 rfl (lv_at hl 1 rfl) ?_
      have b4 := bd_in hf
      replace hf := bd_k hf
      obtain ⟨c4x, e4⟩ : ∃ y, y = upd c1 v0_size.toNatClampNeg a0 := ⟨_, rfl⟩
      replace hf := nm_at hf e4
      refine va_iast hx hb hK hP hD hS 1 0 rfl rfl b4 dX11_push_39 (fun H locs hP hD hS => ?_)
      have hP : va_P (dC, dI) vwCl (wX11_push h0 h1 kc1 V0 0 v0_size v0_wayState c4x) H := by rw [e4]; exact hP
      have hD : va_D A (wX11_push h0 h1 kc1 V0 0 v0_size v0_wayState c4x) := by rw [e4]; exact hD
      refine lv_aload_n hx hb dX11_push_40 rfl (lv_at hl 0 rfl) ?_
      refine lv_dup hx hb dX11_push_41 rfl ?_
      refine va_get (D := (dC, dI)) (ci := 11) (v := .int v0_size) (C := RX11) (T := TX11) (N := 71) hx hb hts inlX11 hown hK hP 0 rfl rfl 6 (by decide) w1_ (fun _ h9 => h9) rfl dX11_push_42 ?_
      refine lv_iconst (v := 1) hx hb dX11_push_45 (by decide +kernel) ?_
      refine lv_iadd hx hb dX11_push_46 ?_
      refine lv_topi (fun x5 e5 => ?_)
      replace hf := nm_at hf e5
      refine va_put (D := (dC, dI)) (ci := 11) (v := .int x5) (ty := .int) (C := RX11) (T := TX11) (N := 71) hx hb hts inlX11 tyX11 tyX11_ok nmX11 hown hK hP hD hS 0 rfl rfl 6 (by decide) w1_ (fun _ h9 => h9) rfl (by decide +kernel) rfl rfl (Nat.le_of_ble_eq_true rfl) dX11_push_47 (fun H locs hP hD hS => ?_)
      have hP : va_P (dC, dI) vwCl (wX11_push h0 h1 kc1 V0 0 x5 v0_wayState c4x) H := hP
      have hD : va_D A (wX11_push h0 h1 kc1 V0 0 x5 v0_wayState c4x) := hD
      refine lv_aload_n hx hb dX11_push_50 rfl (lv_at hl 0 rfl) ?_
      refine lv_iconst (v := (-1)) hx hb dX11_push_51 (by decide +kernel) ?_
      refine va_put (D := (dC, dI)) (ci := 11) (v := .int (-1)) (ty := .int) (C := RX11) (T := TX11) (N := 71) hx hb hts inlX11 tyX11 tyX11_ok nmX11 hown hK hP hD hS 0 rfl rfl 10 (by decide) w3_ (fun _ h9 => h9) rfl (by decide +kernel) rfl rfl (Nat.le_of_ble_eq_true rfl) dX11_push_52 (fun H locs hP hD hS => ?_)
      have hP : va_P (dC, dI) vwCl (wX11_push h0 h1 kc1 V0 0 x5 (-1) c4x) H := hP
      have hD : va_D A (wX11_push h0 h1 kc1 V0 0 x5 (-1) c4x) := hD
      refine lv_aload_n hx hb dX11_push_55 rfl (lv_at hl 0 rfl) ?_
      refine va_get (D := (dC, dI)) (ci := 11) (v := .int x5) (C := RX11) (T := TX11) (N := 71) hx hb hts inlX11 hown hK hP 0 rfl rfl 6 (by decide) w1_ (fun _ h9 => h9) rfl dX11_push_56 ?_
      have hf1 := Option.some.inj hf
      subst hf1
      have hP9 := hP.sub (ws' := (wX11_push h0 h1 kc1 V0 0 x5 (-1) c4x)) [0, 1] rfl
      have hD9 := hD.sub (ws' := (wX11_push h0 h1 kc1 V0 0 x5 (-1) c4x)) [0, 1] (by decide) rfl
      exact W.iret (v := x5) hx hb hr (fun t ht hW => ⟨⟨x5, (0, x5, (-1), c4x), rfl, ⟨rfl, rfl⟩, by rw [ht]; exact hP9, va_K.moved hW.alike hK, hD9⟩, hS.F ht⟩) hS.2.2 dX11_push_59
    · replace hf := if_at hf cq3
      refine lv_bipush (v := (-3)) hx hb dX11_push_27 (by decide +kernel) ?_
      have hf1 := Option.some.inj hf
      subst hf1
      have hP9 := hP.sub (ws' := (wX11_push h0 h1 kc1 V0 0 v0_size v0_wayState c1)) [0, 1] rfl
      have hD9 := hD.sub (ws' := (wX11_push h0 h1 kc1 V0 0 v0_size v0_wayState c1)) [0, 1] (by decide) rfl
      exact W.iret (v := (-3)) hx hb hr (fun t ht hW => ⟨⟨(-3), (0, v0_size, v0_wayState, c1), rfl, ⟨rfl, rfl⟩, by rw [ht]; exact hP9, va_K.moved hW.alike hK, hD9⟩, hS.F ht⟩) hS.2.2 dX11_push_29
  · replace hf := if_at hf cq2
    refine lv_bipush (v := (-2)) hx hb dX11_push_15 (by decide +kernel) ?_
    have hf1 := Option.some.inj hf
    subst hf1
    have hP9 := hP.sub (ws' := (wX11_push h0 h1 kc1 V0 0 v0_size v0_wayState c1)) [0, 1] rfl
    have hD9 := hD.sub (ws' := (wX11_push h0 h1 kc1 V0 0 v0_size v0_wayState c1)) [0, 1] (by decide) rfl
    exact W.iret (v := (-2)) hx hb hr (fun t ht hW => ⟨⟨(-2), (0, v0_size, v0_wayState, c1), rfl, ⟨rfl, rfl⟩, by rw [ht]; exact hP9, va_K.moved hW.alike hK, hD9⟩, hS.F ht⟩) hS.2.2 dX11_push_17
abbrev wX11_read (h0 h1 h2 h3 h4 h5 h6 h7 h8 h9 h10 h11 h12 h13 h14 h15 h16 h17 h18 h19 h20 h21 h22 h23 h24 : Nat) (kc1 kc2 kc3 kc4 kc5 kc6 kc7 kc8 kc9 kc10 kc11 kc12 kc13 kc14 kc15 kc16 kc17 kc18 kc19 kc20 kc21 kc22 kc23 kc24 : ClassId) (V0 : Nat → Value) (v0_thrown : Int32) (v0_textSize : Int32) (v0_from : Int32) (v0_to : Int32) (v0_token : Int32) (v0_name : Int64) (v0_wrong : Int32) (v0_wrongAt : Int32) (v0_has : Int32) (v0_globals : Int32) (v0_procedures : Int32) (v0_statements : Int32) (v0_codes : Int32) (v0_blocks : Int32) (v0_open : Int32) (v0_opSize : Int32) (v0_deep : Int32) (c1 : Nat → Int32) (c2 : Nat → Int64) (c3 : Nat → Int32) (c4 : Nat → Int64) (c5 : Nat → Int64) (c6 : Nat → Int32) (c7 : Nat → Int32) (c8 : Nat → Int32) (c9 : Nat → Int32) (c10 : Nat → Int32) (c11 : Nat → Int32) (c12 : Nat → Int32) (c13 : Nat → Int32) (c14 : Nat → Int32) (c15 : Nat → Int32) (c16 : Nat → Int32) (c17 : Nat → Int32) (c18 : Nat → Int32) (c19 : Nat → Int32) (c20 : Nat → Int32) (c21 : Nat → Int32) (c22 : Nat → Int64) (c23 : Nat → Int32) (c24 : Nat → Int32) : va_W := [(h0, .inr (11, [.int v0_thrown, V0 1, V0 2, V0 3, V0 4, V0 5, V0 6, V0 7, V0 8, V0 9, V0 10, V0 11, V0 12, V0 13, V0 14, V0 15, V0 16, V0 17, V0 18, .int v0_textSize, .ref h1, .int v0_from, .int v0_to, .int v0_token, .long v0_name, .int v0_wrong, .int v0_wrongAt, .int v0_has, .int v0_globals, .int v0_procedures, .int v0_statements, .ref h2, .ref h4, .ref h3, .ref h5, .ref h6, .ref h11, .ref h12, .ref h13, .ref h19, .ref h16, .ref h24, .ref h14, .ref h15, .ref h17, .ref h18, .ref h21, .int v0_codes, .ref h22, .ref h23, .int v0_blocks, .ref h7, .ref h8, .ref h9, .int v0_open, .ref h10, .ref h20, .int v0_opSize, .int v0_deep, V0 59, V0 60, V0 61, V0 62, V0 63, V0 64, V0 65, V0 66, V0 67, V0 68, V0 69, V0 70])), (h1, .inl (kc1, 600, .inl c1)), (h2, .inl (kc2, 3, .inr (.inl c2))), (h3, .inl (kc3, 6, .inl c3)), (h4, .inl (kc4, 12, .inr (.inl c4))), (h5, .inl (kc5, 6, .inr (.inl c5))), (h6, .inl (kc6, 6, .inl c6)), (h7, .inl (kc7, 90, .inl c7)), (h8, .inl (kc8, 90, .inl c8)), (h9, .inl (kc9, 90, .inl c9)), (h10, .inl (kc10, 12, .inl c10)), (h11, .inl (kc11, 40, .inl c11)), (h12, .inl (kc12, 40, .inl c12)), (h13, .inl (kc13, 40, .inl c13)), (h14, .inl (kc14, 40, .inl c14)), (h15, .inl (kc15, 40, .inl c15)), (h16, .inl (kc16, 80, .inl c16)), (h17, .inl (kc17, 40, .inl c17)), (h18, .inl (kc18, 40, .inl c18)), (h19, .inl (kc19, 40, .inl c19)), (h20, .inl (kc20, 700, .inl c20)), (h21, .inl (kc21, 700, .inl c21)), (h22, .inl (kc22, 40, .inr (.inl c22))), (h23, .inl (kc23, 40, .inl c23)), (h24, .inl (kc24, 40, .inl c24))]
set_option maxHeartbeats 4000000 in
set_option maxRecDepth 100000 in
theorem mX11_read (l : Launch) (dC : Nat → ClassId) (dI : Nat → Nat → Nat) (h0 h1 h2 h3 h4 h5 h6 h7 h8 h9 h10 h11 h12 h13 h14 h15 h16 h17 h18 h19 h20 h21 h22 h23 h24 : Nat) (kc1 kc2 kc3 kc4 kc5 kc6 kc7 kc8 kc9 kc10 kc11 kc12 kc13 kc14 kc15 kc16 kc17 kc18 kc19 kc20 kc21 kc22 kc23 kc24 : ClassId) (sz : Nat) (base : Nat × Nat × Nat) (v0_thrown : Int32) (v0_textSize : Int32) (v0_from : Int32) (v0_to : Int32) (v0_token : Int32) (v0_name : Int64) (v0_wrong : Int32) (v0_wrongAt : Int32) (v0_has : Int32) (v0_globals : Int32) (v0_procedures : Int32) (v0_statements : Int32) (v0_codes : Int32) (v0_blocks : Int32) (v0_open : Int32) (v0_opSize : Int32) (v0_deep : Int32) (c1 : Nat → Int32) (c2 : Nat → Int64) (c3 : Nat → Int32) (c4 : Nat → Int64) (c5 : Nat → Int64) (c6 : Nat → Int32) (c7 : Nat → Int32) (c8 : Nat → Int32) (c9 : Nat → Int32) (c10 : Nat → Int32) (c11 : Nat → Int32) (c12 : Nat → Int32) (c13 : Nat → Int32) (c14 : Nat → Int32) (c15 : Nat → Int32) (c16 : Nat → Int32) (c17 : Nat → Int32) (c18 : Nat → Int32) (c19 : Nat → Int32) (c20 : Nat → Int32) (c21 : Nat → Int32) (c22 : Nat → Int64) (c23 : Nat → Int32) (c24 : Nat → Int32) (V0 : Nat → Value) (o : Int32 × Int32 × Int32 × Int32 × Int32 × Int32 × Int64 × Int32 × Int32 × Int32 × Int32 × Int32 × Int32 × Int32 × Int32 × Int32 × Int32 × Int32 × (Nat → Int64) × (Nat → Int32) × (Nat → Int64) × (Nat → Int64) × (Nat → Int32) × (Nat → Int32) × (Nat → Int32) × (Nat → Int32) × (Nat → Int32) × (Nat → Int32) × (Nat → Int32) × (Nat → Int32) × (Nat → Int32) × (Nat → Int32) × (Nat → Int32) × (Nat → Int32) × (Nat → Int32) × (Nat → Int32) × (Nat → Int32) × (Nat → Int32) × (Nat → Int64) × (Nat → Int32) × (Nat → Int32)) (hf : fX11_read v0_thrown v0_textSize v0_from v0_to v0_token v0_name v0_wrong v0_wrongAt v0_has v0_globals v0_procedures v0_statements v0_codes v0_blocks v0_open v0_opSize v0_deep c1 c2 c3 c4 c5 c6 c7 c8 c9 c10 c11 c12 c13 c14 c15 c16 c17 c18 c19 c20 c21 c22 c23 c24 = some o) : Met l yX11_read (.code yX11_read cX11_read 1 (some .int) :: wsL_law) ({ frames := 7, cells := 0, slots := 0, locals := 158 }) (cPre (dC, dI) vwCl [.ref h0] sz base (wX11_read h0 h1 h2 h3 h4 h5 h6 h7 h8 h9 h10 h11 h12 h13 h14 h15 h16 h17 h18 h19 h20 h21 h22 h23 h24 kc1 kc2 kc3 kc4 kc5 kc6 kc7 kc8 kc9 kc10 kc11 kc12 kc13 kc14 kc15 kc16 kc17 kc18 kc19 kc20 kc21 kc22 kc23 kc24 V0 v0_thrown v0_textSize v0_from v0_to v0_token v0_name v0_wrong v0_wrongAt v0_has v0_globals v0_procedures v0_statements v0_codes v0_blocks v0_open v0_opSize v0_deep c1 c2 c3 c4 c5 c6 c7 c8 c9 c10 c11 c12 c13 c14 c15 c16 c17 c18 c19 c20 c21 c22 c23 c24) [(kc1, .int), (kc2, .long), (kc3, .int), (kc4, .long), (kc5, .long), (kc6, .int), (kc7, .int), (kc8, .int), (kc9, .int), (kc10, .int), (kc11, .int), (kc12, .int), (kc13, .int), (kc14, .int), (kc15, .int), (kc16, .int), (kc17, .int), (kc18, .int), (kc19, .int), (kc20, .int), (kc21, .int), (kc22, .long), (kc23, .int), (kc24, .int)]) (va_Qi (fun r u => r = o.1 ∧ u = o.2) (fun (u : Int32 × Int32 × Int32 × Int32 × Int32 × Int64 × Int32 × Int32 × Int32 × Int32 × Int32 × Int32 × Int32 × Int32 × Int32 × Int32 × Int32 × (Nat → Int64) × (Nat → Int32) × (Nat → Int64) × (Nat → Int64) × (Nat → Int32) × (Nat → Int32) × (Nat → Int32) × (Nat → Int32) × (Nat → Int32) × (Nat → Int32) × (Nat → Int32) × (Nat → Int32) × (Nat → Int32) × (Nat → Int32) × (Nat → Int32) × (Nat → Int32) × (Nat → Int32) × (Nat → Int32) × (Nat → Int32) × (Nat → Int32) × (Nat → Int64) × (Nat → Int32) × (Nat → Int32)) t => cPost (dC, dI) vwCl (va_A (wX11_read h0 h1 h2 h3 h4 h5 h6 h7 h8 h9 h10 h11 h12 h13 h14 h15 h16 h17 h18 h19 h20 h21 h22 h23 h24 kc1 kc2 kc3 kc4 kc5 kc6 kc7 kc8 kc9 kc10 kc11 kc12 kc13 kc14 kc15 kc16 kc17 kc18 kc19 kc20 kc21 kc22 kc23 kc24 V0 v0_thrown v0_textSize v0_from v0_to v0_token v0_name v0_wrong v0_wrongAt v0_has v0_globals v0_procedures v0_statements v0_codes v0_blocks v0_open v0_opSize v0_deep c1 c2 c3 c4 c5 c6 c7 c8 c9 c10 c11 c12 c13 c14 c15 c16 c17 c18 c19 c20 c21 c22 c23 c24) sz) (wX11_read h0 h1 h2 h3 h4 h5 h6 h7 h8 h9 h10 h11 h12 h13 h14 h15 h16 h17 h18 h19 h20 h21 h22 h23 h24 kc1 kc2 kc3 kc4 kc5 kc6 kc7 kc8 kc9 kc10 kc11 kc12 kc13 kc14 kc15 kc16 kc17 kc18 kc19 kc20 kc21 kc22 kc23 kc24 V0 u.1 u.2.1 u.2.2.1 u.2.2.2.1 u.2.2.2.2.1 u.2.2.2.2.2.1 u.2.2.2.2.2.2.1 u.2.2.2.2.2.2.2.1 u.2.2.2.2.2.2.2.2.1 u.2.2.2.2.2.2.2.2.2.1 u.2.2.2.2.2.2.2.2.2.2.1 u.2.2.2.2.2.2.2.2.2.2.2.1 u.2.2.2.2.2.2.2.2.2.2.2.2.1 u.2.2.2.2.2.2.2.2.2.2.2.2.2.1 u.2.2.2.2.2.2.2.2.2.2.2.2.2.2.1 u.2.2.2.2.2.2.2.2.2.2.2.2.2.2.2.1 u.2.2.2.2.2.2.2.2.2.2.2.2.2.2.2.2.1 c1 u.2.2.2.2.2.2.2.2.2.2.2.2.2.2.2.2.2.1 u.2.2.2.2.2.2.2.2.2.2.2.2.2.2.2.2.2.2.1 u.2.2.2.2.2.2.2.2.2.2.2.2.2.2.2.2.2.2.2.1 u.2.2.2.2.2.2.2.2.2.2.2.2.2.2.2.2.2.2.2.2.1 u.2.2.2.2.2.2.2.2.2.2.2.2.2.2.2.2.2.2.2.2.2.1 u.2.2.2.2.2.2.2.2.2.2.2.2.2.2.2.2.2.2.2.2.2.2.1 u.2.2.2.2.2.2.2.2.2.2.2.2.2.2.2.2.2.2.2.2.2.2.2.1 u.2.2.2.2.2.2.2.2.2.2.2.2.2.2.2.2.2.2.2.2.2.2.2.2.1 u.2.2.2.2.2.2.2.2.2.2.2.2.2.2.2.2.2.2.2.2.2.2.2.2.2.1 u.2.2.2.2.2.2.2.2.2.2.2.2.2.2.2.2.2.2.2.2.2.2.2.2.2.2.1 u.2.2.2.2.2.2.2.2.2.2.2.2.2.2.2.2.2.2.2.2.2.2.2.2.2.2.2.1 u.2.2.2.2.2.2.2.2.2.2.2.2.2.2.2.2.2.2.2.2.2.2.2.2.2.2.2.2.1 u.2.2.2.2.2.2.2.2.2.2.2.2.2.2.2.2.2.2.2.2.2.2.2.2.2.2.2.2.2.1 u.2.2.2.2.2.2.2.2.2.2.2.2.2.2.2.2.2.2.2.2.2.2.2.2.2.2.2.2.2.2.1 u.2.2.2.2.2.2.2.2.2.2.2.2.2.2.2.2.2.2.2.2.2.2.2.2.2.2.2.2.2.2.2.1 u.2.2.2.2.2.2.2.2.2.2.2.2.2.2.2.2.2.2.2.2.2.2.2.2.2.2.2.2.2.2.2.2.1 u.2.2.2.2.2.2.2.2.2.2.2.2.2.2.2.2.2.2.2.2.2.2.2.2.2.2.2.2.2.2.2.2.2.1 u.2.2.2.2.2.2.2.2.2.2.2.2.2.2.2.2.2.2.2.2.2.2.2.2.2.2.2.2.2.2.2.2.2.2.1 u.2.2.2.2.2.2.2.2.2.2.2.2.2.2.2.2.2.2.2.2.2.2.2.2.2.2.2.2.2.2.2.2.2.2.2.1 u.2.2.2.2.2.2.2.2.2.2.2.2.2.2.2.2.2.2.2.2.2.2.2.2.2.2.2.2.2.2.2.2.2.2.2.2.1 u.2.2.2.2.2.2.2.2.2.2.2.2.2.2.2.2.2.2.2.2.2.2.2.2.2.2.2.2.2.2.2.2.2.2.2.2.2.1 u.2.2.2.2.2.2.2.2.2.2.2.2.2.2.2.2.2.2.2.2.2.2.2.2.2.2.2.2.2.2.2.2.2.2.2.2.2.2.1 u.2.2.2.2.2.2.2.2.2.2.2.2.2.2.2.2.2.2.2.2.2.2.2.2.2.2.2.2.2.2.2.2.2.2.2.2.2.2.2) [(kc1, .int), (kc2, .long), (kc3, .int), (kc4, .long), (kc5, .long), (kc6, .int), (kc7, .int), (kc8, .int), (kc9, .int), (kc10, .int), (kc11, .int), (kc12, .int), (kc13, .int), (kc14, .int), (kc15, .int), (kc16, .int), (kc17, .int), (kc18, .int), (kc19, .int), (kc20, .int), (kc21, .int), (kc22, .long), (kc23, .int), (kc24, .int)] t) (va_A (wX11_read h0 h1 h2 h3 h4 h5 h6 h7 h8 h9 h10 h11 h12 h13 h14 h15 h16 h17 h18 h19 h20 h21 h22 h23 h24 kc1 kc2 kc3 kc4 kc5 kc6 kc7 kc8 kc9 kc10 kc11 kc12 kc13 kc14 kc15 kc16 kc17 kc18 kc19 kc20 kc21 kc22 kc23 kc24 V0 v0_thrown v0_textSize v0_from v0_to v0_token v0_name v0_wrong v0_wrongAt v0_has v0_globals v0_procedures v0_statements v0_codes v0_blocks v0_open v0_opSize v0_deep c1 c2 c3 c4 c5 c6 c7 c8 c9 c10 c11 c12 c13 c14 c15 c16 c17 c18 c19 c20 c21 c22 c23 c24) sz)) 0 0 (va_A (wX11_read h0 h1 h2 h3 h4 h5 h6 h7 h8 h9 h10 h11 h12 h13 h14 h15 h16 h17 h18 h19 h20 h21 h22 h23 h24 kc1 kc2 kc3 kc4 kc5 kc6 kc7 kc8 kc9 kc10 kc11 kc12 kc13 kc14 kc15 kc16 kc17 kc18 kc19 kc20 kc21 kc22 kc23 kc24 V0 v0_thrown v0_textSize v0_from v0_to v0_token v0_name v0_wrong v0_wrongAt v0_has v0_globals v0_procedures v0_statements v0_codes v0_blocks v0_open v0_opSize v0_deep c1 c2 c3 c4 c5 c6 c7 c8 c9 c10 c11 c12 c13 c14 c15 c16 c17 c18 c19 c20 c21 c22 c23 c24) sz) := by
  refine Met.ofW (cc := cX11_read) (maxL := 1) (ret := (some .int)) (by decide) rfl ?_
  intro p e s m args below meth c s₁ B hml hv
  obtain ⟨rfl, hsz, hP, hK, hD0, hE⟩ := hv
  have hx := B.exec
  have hb := B.bytes
  have hr := B.returns
  have hts : ∀ w ∈ wsL_law, _ := fun w h => atoms_spec (ws := .code yX11_read cX11_read 1 (some .int) :: wsL_law) B.pre w (List.mem_cons_of_mem _ h)
  have hown : s.vm.findClass RX11 = some m.cls := findClass_of_methodNamed B.named
  have hlocks := B.notSynchronized
  have w0_ := hts _ q795
  have w1_ := hts _ q530
  have w2_ := hts _ q793
  have w3_ := hts _ q796
  have w4_ := hts _ q146
  have w5_ := hts _ q95
  have w6_ := hts _ q794
  subst hsz
  have hD := hD0.self (sz := s.heap.size)
  generalize hAe : va_A (wX11_read h0 h1 h2 h3 h4 h5 h6 h7 h8 h9 h10 h11 h12 h13 h14 h15 h16 h17 h18 h19 h20 h21 h22 h23 h24 kc1 kc2 kc3 kc4 kc5 kc6 kc7 kc8 kc9 kc10 kc11 kc12 kc13 kc14 kc15 kc16 kc17 kc18 kc19 kc20 kc21 kc22 kc23 kc24 V0 v0_thrown v0_textSize v0_from v0_to v0_token v0_name v0_wrong v0_wrongAt v0_has v0_globals v0_procedures v0_statements v0_codes v0_blocks v0_open v0_opSize v0_deep c1 c2 c3 c4 c5 c6 c7 c8 c9 c10 c11 c12 c13 c14 c15 c16 c17 c18 c19 c20 c21 c22 c23 c24) s.heap.size = A at hD ⊢
  have hA : ∀ q : Nat, s.heap.size ≤ q → A q := fun q h => by rw [← hAe]; exact Or.inr h
  have hAB : ∀ q : Nat, A q → base.1 ≤ q := fun q h => by rw [← hAe] at h; exact h.elim (fun ⟨k, e, hk⟩ => hD0.2 k _ hk) (fun hk => Nat.le_trans hE.1 hk)
  have hS : va_S A s.heap s.heap [] := va_S.rf
  have hl := lv_entry ([.ref h0]) (n := 1) (Nat.le_of_ble_eq_true rfl)
  rw [lg_entry_eq]
  generalize (lg_sl ([.ref h0]) ++ List.replicate (1 - (lg_sl ([.ref h0])).length) Slot.unset).toArray = ls at hl ⊢
  have hl : lv_has ls 1 [(0, .ref h0)] := hl
  have hP : va_P (dC, dI) vwCl (wX11_read h0 h1 h2 h3 h4 h5 h6 h7 h8 h9 h10 h11 h12 h13 h14 h15 h16 h17 h18 h19 h20 h21 h22 h23 h24 kc1 kc2 kc3 kc4 kc5 kc6 kc7 kc8 kc9 kc10 kc11 kc12 kc13 kc14 kc15 kc16 kc17 kc18 kc19 kc20 kc21 kc22 kc23 kc24 V0 v0_thrown v0_textSize v0_from v0_to v0_token v0_name v0_wrong v0_wrongAt v0_has v0_globals v0_procedures v0_statements v0_codes v0_blocks v0_open v0_opSize v0_deep c1 c2 c3 c4 c5 c6 c7 c8 c9 c10 c11 c12 c13 c14 c15 c16 c17 c18 c19 c20 c21 c22 c23 c24) s.heap := hP
  refine gl_intro (fun G hG => ?_)
  have J73 : ∀ (z0 : Int32) (v0_thrown : Int32) (v0_textSize : Int32) (v0_from : Int32) (v0_to : Int32) (v0_token : Int32) (v0_name : Int64) (v0_wrong : Int32) (v0_wrongAt : Int32) (v0_has : Int32) (v0_globals : Int32) (v0_procedures : Int32) (v0_statements : Int32) (v0_codes : Int32) (v0_blocks : Int32) (v0_open : Int32) (v0_opSize : Int32) (v0_deep : Int32) (c2 : (Nat → Int64)) (c3 : (Nat → Int32)) (c4 : (Nat → Int64)) (c5 : (Nat → Int64)) (c6 : (Nat → Int32)) (c7 : (Nat → Int32)) (c8 : (Nat → Int32)) (c9 : (Nat → Int32)) (c10 : (Nat → Int32)) (c11 : (Nat → Int32)) (c12 : (Nat → Int32)) (c13 : (Nat → Int32)) (c14 : (Nat → Int32)) (c15 : (Nat → Int32)) (c16 : (Nat → Int32)) (c17 : (Nat → Int32)) (c18 : (Nat → Int32)) (c19 : (Nat → Int32)) (c20 : (Nat → Int32)) (c21 : (Nat → Int32)) (c22 : (Nat → Int64)) (c23 : (Nat → Int32)) (c24 : (Nat → Int32)) (H : Heap) (locs : List Loc) (ls : Array Slot), va_P (dC, dI) vwCl (wX11_read h0 h1 h2 h3 h4 h5 h6 h7 h8 h9 h10 h11 h12 h13 h14 h15 h16 h17 h18 h19 h20 h21 h22 h23 h24 kc1 kc2 kc3 kc4 kc5 kc6 kc7 kc8 kc9 kc10 kc11 kc12 kc13 kc14 kc15 kc16 kc17 kc18 kc19 kc20 kc21 kc22 kc23 kc24 V0 v0_thrown v0_textSize v0_from v0_to v0_token v0_name v0_wrong v0_wrongAt v0_has v0_globals v0_procedures v0_statements v0_codes v0_blocks v0_open v0_opSize v0_deep c1 c2 c3 c4 c5 c6 c7 c8 c9 c10 c11 c12 c13 c14 c15 c16 c17 c18 c19 c20 c21 c22 c23 c24) H → va_D A (wX11_read h0 h1 h2 h3 h4 h5 h6 h7 h8 h9 h10 h11 h12 h13 h14 h15 h16 h17 h18 h19 h20 h21 h22 h23 h24 kc1 kc2 kc3 kc4 kc5 kc6 kc7 kc8 kc9 kc10 kc11 kc12 kc13 kc14 kc15 kc16 kc17 kc18 kc19 kc20 kc21 kc22 kc23 kc24 V0 v0_thrown v0_textSize v0_from v0_to v0_token v0_name v0_wrong v0_wrongAt v0_has v0_globals v0_procedures v0_statements v0_codes v0_blocks v0_open v0_opSize v0_deep c1 c2 c3 c4 c5 c6 c7 c8 c9 c10 c11 c12 c13 c14 c15 c16 c17 c18 c19 c20 c21 c22 c23 c24) → va_S A s.heap H locs → lv_has ls 1 [(0, .ref h0)] → fX11_read_p73 c1  z0 v0_thrown v0_textSize v0_from v0_to v0_token v0_name v0_wrong v0_wrongAt v0_has v0_globals v0_procedures v0_statements v0_codes v0_blocks v0_open v0_opSize v0_deep c2 c3 c4 c5 c6 c7 c8 c9 c10 c11 c12 c13 c14 c15 c16 c17 c18 c19 c20 c21 c22 c23 c24 = some o → G 0 0 H locs (F0 m 73 ls [.int z0]) := by
    intro  z0 v0_thrown v0_textSize v0_from v0_to v0_token v0_name v0_wrong v0_wrongAt v0_has v0_globals v0_procedures v0_statements v0_codes v0_blocks v0_open v0_opSize v0_deep c2 c3 c4 c5 c6 c7 c8 c9 c10 c11 c12 c13 c14 c15 c16 c17 c18 c19 c20 c21 c22 c23 c24 H locs ls hP hD hS hl hf
    refine (hG _ _ _ _ _).mpr ?_
    unfold fX11_read_p73 at hf
    have hf1 := Option.some.inj hf
    subst hf1
    have hP9 := hP.sub (ws' := (wX11_read h0 h1 h2 h3 h4 h5 h6 h7 h8 h9 h10 h11 h12 h13 h14 h15 h16 h17 h18 h19 h20 h21 h22 h23 h24 kc1 kc2 kc3 kc4 kc5 kc6 kc7 kc8 kc9 kc10 kc11 kc12 kc13 kc14 kc15 kc16 kc17 kc18 kc19 kc20 kc21 kc22 kc23 kc24 V0 v0_thrown v0_textSize v0_from v0_to v0_token v0_name v0_wrong v0_wrongAt v0_has v0_globals v0_procedures v0_statements v0_codes v0_blocks v0_open v0_opSize v0_deep c1 c2 c3 c4 c5 c6 c7 c8 c9 c10 c11 c12 c13 c14 c15 c16 c17 c18 c19 c20 c21 c22 c23 c24)) [0, 1, 2, 3, 4, 5, 6, 7, 8, 9, 10, 11, 12, 13, 14, 15, 16, 17, 18, 19, 20, 21, 22, 23, 24] rfl
    have hD9 := hD.sub (ws' := (wX11_read h0 h1 h2 h3 h4 h5 h6 h7 h8 h9 h10 h11 h12 h13 h14 h15 h16 h17 h18 h19 h20 h21 h22 h23 h24 kc1 kc2 kc3 kc4 kc5 kc6 kc7 kc8 kc9 kc10 kc11 kc12 kc13 kc14 kc15 kc16 kc17 kc18 kc19 kc20 kc21 kc22 kc23 kc24 V0 v0_thrown v0_textSize v0_from v0_to v0_token v0_name v0_wrong v0_wrongAt v0_has v0_globals v0_procedures v0_statements v0_codes v0_blocks v0_open v0_opSize v0_deep c1 c2 c3 c4 c5 c6 c7 c8 c9 c10 c11 c12 c13 c14 c15 c16 c17 c18 c19 c20 c21 c22 c23 c24)) [0, 1, 2, 3, 4, 5, 6, 7, 8, 9, 10, 11, 12, 13, 14, 15, 16, 17, 18, 19, 20, 21, 22, 23, 24] (by decide) rfl
    exact W.iret (v := z0) hx hb hr (fun t ht hW => ⟨⟨z0, (v0_thrown, v0_textSize, v0_from, v0_to, v0_token, v0_name, v0_wrong, v0_wrongAt, v0_has, v0_globals, v0_procedures, v0_statements, v0_codes, v0_blocks, v0_open, v0_opSize, v0_deep, c2, c3, c4, c5, c6, c7, c8, c9, c10, c11, c12, c13, c14, c15, c16, c17, c18, c19, c20, c21, c22, c23, c24), rfl, ⟨rfl, rfl⟩, by rw [ht]; exact hP9, va_K.moved hW.alike hK, hD9⟩, hS.F ht⟩) hS.2.2 dX11_read_73
  have J44 : ∀ (z0 : Int32) (v0_thrown : Int32) (v0_textSize : Int32) (v0_from : Int32) (v0_to : Int32) (v0_token : Int32) (v0_name : Int64) (v0_wrong : Int32) (v0_wrongAt : Int32) (v0_has : Int32) (v0_globals : Int32) (v0_procedures : Int32) (v0_statements : Int32) (v0_codes : Int32) (v0_blocks : Int32) (v0_open : Int32) (v0_opSize : Int32) (v0_deep : Int32) (c2 : (Nat → Int64)) (c3 : (Nat → Int32)) (c4 : (Nat → Int64)) (c5 : (Nat → Int64)) (c6 : (Nat → Int32)) (c7 : (Nat → Int32)) (c8 : (Nat → Int32)) (c9 : (Nat → Int32)) (c10 : (Nat → Int32)) (c11 : (Nat → Int32)) (c12 : (Nat → Int32)) (c13 : (Nat → Int32)) (c14 : (Nat → Int32)) (c15 : (Nat → Int32)) (c16 : (Nat → Int32)) (c17 : (Nat → Int32)) (c18 : (Nat → Int32)) (c19 : (Nat → Int32)) (c20 : (Nat → Int32)) (c21 : (Nat → Int32)) (c22 : (Nat → Int64)) (c23 : (Nat → Int32)) (c24 : (Nat → Int32)) (H : Heap) (locs : List Loc) (ls : Array Slot), va_P (dC, dI) vwCl (wX11_read h0 h1 h2 h3 h4 h5 h6 h7 h8 h9 h10 h11 h12 h13 h14 h15 h16 h17 h18 h19 h20 h21 h22 h23 h24 kc1 kc2 kc3 kc4 kc5 kc6 kc7 kc8 kc9 kc10 kc11 kc12 kc13 kc14 kc15 kc16 kc17 kc18 kc19 kc20 kc21 kc22 kc23 kc24 V0 v0_thrown v0_textSize v0_from v0_to v0_token v0_name v0_wrong v0_wrongAt v0_has v0_globals v0_procedures v0_statements v0_codes v0_blocks v0_open v0_opSize v0_deep c1 c2 c3 c4 c5 c6 c7 c8 c9 c10 c11 c12 c13 c14 c15 c16 c17 c18 c19 c20 c21 c22 c23 c24) H → va_D A (wX11_read h0 h1 h2 h3 h4 h5 h6 h7 h8 h9 h10 h11 h12 h13 h14 h15 h16 h17 h18 h19 h20 h21 h22 h23 h24 kc1 kc2 kc3 kc4 kc5 kc6 kc7 kc8 kc9 kc10 kc11 kc12 kc13 kc14 kc15 kc16 kc17 kc18 kc19 kc20 kc21 kc22 kc23 kc24 V0 v0_thrown v0_textSize v0_from v0_to v0_token v0_name v0_wrong v0_wrongAt v0_has v0_globals v0_procedures v0_statements v0_codes v0_blocks v0_open v0_opSize v0_deep c1 c2 c3 c4 c5 c6 c7 c8 c9 c10 c11 c12 c13 c14 c15 c16 c17 c18 c19 c20 c21 c22 c23 c24) → va_S A s.heap H locs → lv_has ls 1 [(0, .ref h0)] → fX11_read_p44 c1  z0 v0_thrown v0_textSize v0_from v0_to v0_token v0_name v0_wrong v0_wrongAt v0_has v0_globals v0_procedures v0_statements v0_codes v0_blocks v0_open v0_opSize v0_deep c2 c3 c4 c5 c6 c7 c8 c9 c10 c11 c12 c13 c14 c15 c16 c17 c18 c19 c20 c21 c22 c23 c24 = some o → G 0 0 H locs (F0 m 44 ls [.int z0, .ref h0]) := by
    intro  z0 v0_thrown v0_textSize v0_from v0_to v0_token v0_name v0_wrong v0_wrongAt v0_has v0_globals v0_procedures v0_statements v0_codes v0_blocks v0_open v0_opSize v0_deep c2 c3 c4 c5 c6 c7 c8 c9 c10 c11 c12 c13 c14 c15 c16 c17 c18 c19 c20 c21 c22 c23 c24 H locs ls hP hD hS hl hf
    refine (hG _ _ _ _ _).mpr ?_
    unfold fX11_read_p44 at hf
    have b1 := bd_b hf
    replace hf := bd_k hf
    refine va_put (D := (dC, dI)) (ci := 11) (v := .int z0) (ty := .boolean) (C := RX11) (T := TX11) (N := 71) hx hb hts inlX11 tyX11 tyX11_ok nmX11 hown hK hP hD hS 0 rfl rfl 27 (by decide) w0_ (fun _ h9 => h9) rfl (by decide +kernel) (bz_nar b1) (bz_fit b1) (Nat.le_of_ble_eq_true rfl) dX11_read_44 (fun H locs hP hD hS => ?_)
    have hP : va_P (dC, dI) vwCl (wX11_read h0 h1 h2 h3 h4 h5 h6 h7 h8 h9 h10 h11 h12 h13 h14 h15 h16 h17 h18 h19 h20 h21 h22 h23 h24 kc1 kc2 kc3 kc4 kc5 kc6 kc7 kc8 kc9 kc10 kc11 kc12 kc13 kc14 kc15 kc16 kc17 kc18 kc19 kc20 kc21 kc22 kc23 kc24 V0 v0_thrown v0_textSize v0_from v0_to v0_token v0_name v0_wrong v0_wrongAt z0 v0_globals v0_procedures v0_statements v0_codes v0_blocks v0_open v0_opSize v0_deep c1 c2 c3 c4 c5 c6 c7 c8 c9 c10 c11 c12 c13 c14 c15 c16 c17 c18 c19 c20 c21 c22 c23 c24) H := hP
    have hD : va_D A (wX11_read h0 h1 h2 h3 h4 h5 h6 h7 h8 h9 h10 h11 h12 h13 h14 h15 h16 h17 h18 h19 h20 h21 h22 h23 h24 kc1 kc2 kc3 kc4 kc5 kc6 kc7 kc8 kc9 kc10 kc11 kc12 kc13 kc14 kc15 kc16 kc17 kc18 kc19 kc20 kc21 kc22 kc23 kc24 V0 v0_thrown v0_textSize v0_from v0_to v0_token v0_name v0_wrong v0_wrongAt z0 v0_globals v0_procedures v0_statements v0_codes v0_blocks v0_open v0_opSize v0_deep c1 c2 c3 c4 c5 c6 c7 c8 c9 c10 c11 c12 c13 c14 c15 c16 c17 c18 c19 c20 c21 c22 c23 c24) := hD
    refine lv_aload_n hx hb dX11_read_47 rfl (lv_at hl 0 rfl) ?_
    refine lv_iconst (v := 0) hx hb dX11_read_48 (by decide +kernel) ?_
    refine va_put (D := (dC, dI)) (ci := 11) (v := .int 0) (ty := .int) (C := RX11) (T := TX11) (N := 71) hx hb hts inlX11 tyX11 tyX11_ok nmX11 hown hK hP hD hS 0 rfl rfl 19 (by decide) w1_ (fun _ h9 => h9) rfl (by decide +kernel) rfl rfl (Nat.le_of_ble_eq_true rfl) dX11_read_49 (fun H locs hP hD hS => ?_)
    have hP : va_P (dC, dI) vwCl (wX11_read h0 h1 h2 h3 h4 h5 h6 h7 h8 h9 h10 h11 h12 h13 h14 h15 h16 h17 h18 h19 h20 h21 h22 h23 h24 kc1 kc2 kc3 kc4 kc5 kc6 kc7 kc8 kc9 kc10 kc11 kc12 kc13 kc14 kc15 kc16 kc17 kc18 kc19 kc20 kc21 kc22 kc23 kc24 V0 v0_thrown 0 v0_from v0_to v0_token v0_name v0_wrong v0_wrongAt z0 v0_globals v0_procedures v0_statements v0_codes v0_blocks v0_open v0_opSize v0_deep c1 c2 c3 c4 c5 c6 c7 c8 c9 c10 c11 c12 c13 c14 c15 c16 c17 c18 c19 c20 c21 c22 c23 c24) H := hP
    have hD : va_D A (wX11_read h0 h1 h2 h3 h4 h5 h6 h7 h8 h9 h10 h11 h12 h13 h14 h15 h16 h17 h18 h19 h20 h21 h22 h23 h24 kc1 kc2 kc3 kc4 kc5 kc6 kc7 kc8 kc9 kc10 kc11 kc12 kc13 kc14 kc15 kc16 kc17 kc18 kc19 kc20 kc21 kc22 kc23 kc24 V0 v0_thrown 0 v0_from v0_to v0_token v0_name v0_wrong v0_wrongAt z0 v0_globals v0_procedures v0_statements v0_codes v0_blocks v0_open v0_opSize v0_deep c1 c2 c3 c4 c5 c6 c7 c8 c9 c10 c11 c12 c13 c14 c15 c16 c17 c18 c19 c20 c21 c22 c23 c24) := hD
    refine lv_aload_n hx hb dX11_read_52 rfl (lv_at hl 0 rfl) ?_
    refine va_get (D := (dC, dI)) (ci := 11) (v := .int z0) (C := RX11) (T := TX11) (N := 71) hx hb hts inlX11 hown hK hP 0 rfl rfl 27 (by decide) w0_ (fun _ h9 => h9) rfl dX11_read_53 ?_
    refine lv_if_eq (tgt := 66) hx hb dX11_read_56 (by decide) (fun cq2 => ?_) (fun cq2 => ?_)
    · replace hf := if_at hf cq2
      refine lv_bipush (v := (-10)) hx hb dX11_read_66 (by decide +kernel) ?_
      refine lv_aload_n hx hb dX11_read_68 rfl (lv_at hl 0 rfl) ?_
      refine va_get (D := (dC, dI)) (ci := 11) (v := .int v0_wrong) (C := RX11) (T := TX11) (N := 71) hx hb hts inlX11 hown hK hP 0 rfl rfl 25 (by decide) w2_ (fun _ h9 => h9) rfl dX11_read_69 ?_
      refine lv_isub hx hb dX11_read_72 ?_
      refine lv_topi (fun x3 e3 => ?_)
      replace hf := nm_at hf e3
      exact (hG _ _ _ _ _).mp (J73 x3 v0_thrown 0 v0_from v0_to v0_token v0_name v0_wrong v0_wrongAt z0 v0_globals v0_procedures v0_statements v0_codes v0_blocks v0_open v0_opSize v0_deep c2 c3 c4 c5 c6 c7 c8 c9 c10 c11 c12 c13 c14 c15 c16 c17 c18 c19 c20 c21 c22 c23 c24 H locs ls (hP.sub [0, 1, 2, 3, 4, 5, 6, 7, 8, 9, 10, 11, 12, 13, 14, 15, 16, 17, 18, 19, 20, 21, 22, 23, 24] rfl) (hD.sub [0, 1, 2, 3, 4, 5, 6, 7, 8, 9, 10, 11, 12, 13, 14, 15, 16, 17, 18, 19, 20, 21, 22, 23, 24] (by decide) rfl) hS (lv_sub hl [0] rfl) hf)
    · replace hf := if_no hf cq2
      refine lv_aload_n hx hb dX11_read_59 rfl (lv_at hl 0 rfl) ?_
      refine va_get (D := (dC, dI)) (ci := 11) (v := .int v0_statements) (C := RX11) (T := TX11) (N := 71) hx hb hts inlX11 hown hK hP 0 rfl rfl 30 (by decide) w3_ (fun _ h9 => h9) rfl dX11_read_60 ?_
      refine lv_goto (tgt := 73) hx hb dX11_read_63 (by decide) ?_
      exact (hG _ _ _ _ _).mp (J73 v0_statements v0_thrown 0 v0_from v0_to v0_token v0_name v0_wrong v0_wrongAt z0 v0_globals v0_procedures v0_statements v0_codes v0_blocks v0_open v0_opSize v0_deep c2 c3 c4 c5 c6 c7 c8 c9 c10 c11 c12 c13 c14 c15 c16 c17 c18 c19 c20 c21 c22 c23 c24 H locs ls (hP.sub [0, 1, 2, 3, 4, 5, 6, 7, 8, 9, 10, 11, 12, 13, 14, 15, 16, 17, 18, 19, 20, 21, 22, 23, 24] rfl) (hD.sub [0, 1, 2, 3, 4, 5, 6, 7, 8, 9, 10, 11, 12, 13, 14, 15, 16, 17, 18, 19, 20, 21, 22, 23, 24] (by decide) rfl) hS (lv_sub hl [0] rfl) hf)
  have J43 : ∀ (v0_thrown : Int32) (v0_textSize : Int32) (v0_from : Int32) (v0_to : Int32) (v0_token : Int32) (v0_name : Int64) (v0_wrong : Int32) (v0_wrongAt : Int32) (v0_has : Int32) (v0_globals : Int32) (v0_procedures : Int32) (v0_statements : Int32) (v0_codes : Int32) (v0_blocks : Int32) (v0_open : Int32) (v0_opSize : Int32) (v0_deep : Int32) (c2 : (Nat → Int64)) (c3 : (Nat → Int32)) (c4 : (Nat → Int64)) (c5 : (Nat → Int64)) (c6 : (Nat → Int32)) (c7 : (Nat → Int32)) (c8 : (Nat → Int32)) (c9 : (Nat → Int32)) (c10 : (Nat → Int32)) (c11 : (Nat → Int32)) (c12 : (Nat → Int32)) (c13 : (Nat → Int32)) (c14 : (Nat → Int32)) (c15 : (Nat → Int32)) (c16 : (Nat → Int32)) (c17 : (Nat → Int32)) (c18 : (Nat → Int32)) (c19 : (Nat → Int32)) (c20 : (Nat → Int32)) (c21 : (Nat → Int32)) (c22 : (Nat → Int64)) (c23 : (Nat → Int32)) (c24 : (Nat → Int32)) (H : Heap) (locs : List Loc) (ls : Array Slot), va_P (dC, dI) vwCl (wX11_read h0 h1 h2 h3 h4 h5 h6 h7 h8 h9 h10 h11 h12 h13 h14 h15 h16 h17 h18 h19 h20 h21 h22 h23 h24 kc1 kc2 kc3 kc4 kc5 kc6 kc7 kc8 kc9 kc10 kc11 kc12 kc13 kc14 kc15 kc16 kc17 kc18 kc19 kc20 kc21 kc22 kc23 kc24 V0 v0_thrown v0_textSize v0_from v0_to v0_token v0_name v0_wrong v0_wrongAt v0_has v0_globals v0_procedures v0_statements v0_codes v0_blocks v0_open v0_opSize v0_deep c1 c2 c3 c4 c5 c6 c7 c8 c9 c10 c11 c12 c13 c14 c15 c16 c17 c18 c19 c20 c21 c22 c23 c24) H → va_D A (wX11_read h0 h1 h2 h3 h4 h5 h6 h7 h8 h9 h10 h11 h12 h13 h14 h15 h16 h17 h18 h19 h20 h21 h22 h23 h24 kc1 kc2 kc3 kc4 kc5 kc6 kc7 kc8 kc9 kc10 kc11 kc12 kc13 kc14 kc15 kc16 kc17 kc18 kc19 kc20 kc21 kc22 kc23 kc24 V0 v0_thrown v0_textSize v0_from v0_to v0_token v0_name v0_wrong v0_wrongAt v0_has v0_globals v0_procedures v0_statements v0_codes v0_blocks v0_open v0_opSize v0_deep c1 c2 c3 c4 c5 c6 c7 c8 c9 c10 c11 c12 c13 c14 c15 c16 c17 c18 c19 c20 c21 c22 c23 c24) → va_S A s.heap H locs → lv_has ls 1 [(0, .ref h0)] → fX11_read_p43 c1  v0_thrown v0_textSize v0_from v0_to v0_token v0_name v0_wrong v0_wrongAt v0_has v0_globals v0_procedures v0_statements v0_codes v0_blocks v0_open v0_opSize v0_deep c2 c3 c4 c5 c6 c7 c8 c9 c10 c11 c12 c13 c14 c15 c16 c17 c18 c19 c20 c21 c22 c23 c24 = some o → G 0 0 H locs (F0 m 43 ls [.ref h0]) := by
    intro  v0_thrown v0_textSize v0_from v0_to v0_token v0_name v0_wrong v0_wrongAt v0_has v0_globals v0_procedures v0_statements v0_codes v0_blocks v0_open v0_opSize v0_deep c2 c3 c4 c5 c6 c7 c8 c9 c10 c11 c12 c13 c14 c15 c16 c17 c18 c19 c20 c21 c22 c23 c24 H locs ls hP hD hS hl hf
    refine (hG _ _ _ _ _).mpr ?_
    unfold fX11_read_p43 at hf
    refine lv_iconst (v := 0) hx hb dX11_read_43 (by decide +kernel) ?_
    exact (hG _ _ _ _ _).mp (J44 0 v0_thrown v0_textSize v0_from v0_to v0_token v0_name v0_wrong v0_wrongAt v0_has v0_globals v0_procedures v0_statements v0_codes v0_blocks v0_open v0_opSize v0_deep c2 c3 c4 c5 c6 c7 c8 c9 c10 c11 c12 c13 c14 c15 c16 c17 c18 c19 c20 c21 c22 c23 c24 H locs ls (hP.sub [0, 1, 2, 3, 4, 5, 6, 7, 8, 9, 10, 11, 12, 13, 14, 15, 16, 17, 18, 19, 20, 21, 22, 23, 24] rfl) (hD.sub [0, 1, 2, 3, 4, 5, 6, 7, 8, 9, 10, 11, 12, 13, 14, 15, 16, 17, 18, 19, 20, 21, 22, 23, 24] (by decide) rfl) hS (lv_sub hl [0] rfl) hf)
  refine (hG _ _ _ _ _).mpr ?_
  obtain ⟨H, hH⟩ : ∃ H, H = s.heap := ⟨_, rfl⟩
  have hS : va_S A s.heap H [] := by rw [hH]; exact hS
  rw [← hH] at hP ⊢
  generalize ([] : List Loc) = locs at hS ⊢
  unfold fX11_read at hf
  refine lv_aload_n hx hb dX11_read_0 rfl (lv_at hl 0 rfl) ?_
  refine lv_iconst (v := 0) hx hb dX11_read_1 (by decide +kernel) ?_
  refine va_put (D := (dC, dI)) (ci := 11) (v := .int 0) (ty := .int) (C := RX11) (T := TX11) (N := 71) hx hb hts inlX11 tyX11 tyX11_ok nmX11 hown hK hP hD hS 0 rfl rfl 0 (by decide) w4_ (fun _ h9 => h9) rfl (by decide +kernel) rfl rfl (Nat.le_of_ble_eq_true rfl) dX11_read_2 (fun H locs hP hD hS => ?_)
  have hP : va_P (dC, dI) vwCl (wX11_read h0 h1 h2 h3 h4 h5 h6 h7 h8 h9 h10 h11 h12 h13 h14 h15 h16 h17 h18 h19 h20 h21 h22 h23 h24 kc1 kc2 kc3 kc4 kc5 kc6 kc7 kc8 kc9 kc10 kc11 kc12 kc13 kc14 kc15 kc16 kc17 kc18 kc19 kc20 kc21 kc22 kc23 kc24 V0 0 v0_textSize v0_from v0_to v0_token v0_name v0_wrong v0_wrongAt v0_has v0_globals v0_procedures v0_statements v0_codes v0_blocks v0_open v0_opSize v0_deep c1 c2 c3 c4 c5 c6 c7 c8 c9 c10 c11 c12 c13 c14 c15 c16 c17 c18 c19 c20 c21 c22 c23 c24) H := hP
  have hD : va_D A (wX11_read h0 h1 h2 h3 h4 h5 h6 h7 h8 h9 h10 h11 h12 h13 h14 h15 h16 h17 h18 h19 h20 h21 h22 h23 h24 kc1 kc2 kc3 kc4 kc5 kc6 kc7 kc8 kc9 kc10 kc11 kc12 kc13 kc14 kc15 kc16 kc17 kc18 kc19 kc20 kc21 kc22 kc23 kc24 V0 0 v0_textSize v0_from v0_to v0_token v0_name v0_wrong v0_wrongAt v0_has v0_globals v0_procedures v0_statements v0_codes v0_blocks v0_open v0_opSize v0_deep c1 c2 c3 c4 c5 c6 c7 c8 c9 c10 c11 c12 c13 c14 c15 c16 c17 c18 c19 c20 c21 c22 c23 c24) := hD
  refine lv_aload_n hx hb dX11_read_5 rfl (lv_at hl 0 rfl) ?_
  refine lv_iconst (v := 0) hx hb dX11_read_6 (by decide +kernel) ?_
  refine va_put (D := (dC, dI)) (ci := 11) (v := .int 0) (ty := .int) (C := RX11) (T := TX11) (N := 71) hx hb hts inlX11 tyX11 tyX11_ok nmX11 hown hK hP hD hS 0 rfl rfl 25 (by decide) w2_ (fun _ h9 => h9) rfl (by decide +kernel) rfl rfl (Nat.le_of_ble_eq_true rfl) dX11_read_7 (fun H locs hP hD hS => ?_)
  have hP : va_P (dC, dI) vwCl (wX11_read h0 h1 h2 h3 h4 h5 h6 h7 h8 h9 h10 h11 h12 h13 h14 h15 h16 h17 h18 h19 h20 h21 h22 h23 h24 kc1 kc2 kc3 kc4 kc5 kc6 kc7 kc8 kc9 kc10 kc11 kc12 kc13 kc14 kc15 kc16 kc17 kc18 kc19 kc20 kc21 kc22 kc23 kc24 V0 0 v0_textSize v0_from v0_to v0_token v0_name 0 v0_wrongAt v0_has v0_globals v0_procedures v0_statements v0_codes v0_blocks v0_open v0_opSize v0_deep c1 c2 c3 c4 c5 c6 c7 c8 c9 c10 c11 c12 c13 c14 c15 c16 c17 c18 c19 c20 c21 c22 c23 c24) H := hP
  have hD : va_D A (wX11_read h0 h1 h2 h3 h4 h5 h6 h7 h8 h9 h10 h11 h12 h13 h14 h15 h16 h17 h18 h19 h20 h21 h22 h23 h24 kc1 kc2 kc3 kc4 kc5 kc6 kc7 kc8 kc9 kc10 kc11 kc12 kc13 kc14 kc15 kc16 kc17 kc18 kc19 kc20 kc21 kc22 kc23 kc24 V0 0 v0_textSize v0_from v0_to v0_token v0_name 0 v0_wrongAt v0_has v0_globals v0_procedures v0_statements v0_codes v0_blocks v0_open v0_opSize v0_deep c1 c2 c3 c4 c5 c6 c7 c8 c9 c10 c11 c12 c13 c14 c15 c16 c17 c18 c19 c20 c21 c22 c23 c24) := hD
  refine lv_aload_n hx hb dX11_read_10 rfl (lv_at hl 0 rfl) ?_
  refine lv_iconst (v := (-1)) hx hb dX11_read_11 (by decide +kernel) ?_
  refine va_put (D := (dC, dI)) (ci := 11) (v := .int (-1)) (ty := .int) (C := RX11) (T := TX11) (N := 71) hx hb hts inlX11 tyX11 tyX11_ok nmX11 hown hK hP hD hS 0 rfl rfl 26 (by decide) w5_ (fun _ h9 => h9) rfl (by decide +kernel) rfl rfl (Nat.le_of_ble_eq_true rfl) dX11_read_12 (fun H locs hP hD hS => ?_)
  have hP : va_P (dC, dI) vwCl (wX11_read h0 h1 h2 h3 h4 h5 h6 h7 h8 h9 h10 h11 h12 h13 h14 h15 h16 h17 h18 h19 h20 h21 h22 h23 h24 kc1 kc2 kc3 kc4 kc5 kc6 kc7 kc8 kc9 kc10 kc11 kc12 kc13 kc14 kc15 kc16 kc17 kc18 kc19 kc20 kc21 kc22 kc23 kc24 V0 0 v0_textSize v0_from v0_to v0_token v0_name 0 (-1) v0_has v0_globals v0_procedures v0_statements v0_codes v0_blocks v0_open v0_opSize v0_deep c1 c2 c3 c4 c5 c6 c7 c8 c9 c10 c11 c12 c13 c14 c15 c16 c17 c18 c19 c20 c21 c22 c23 c24) H := hP
  have hD : va_D A (wX11_read h0 h1 h2 h3 h4 h5 h6 h7 h8 h9 h10 h11 h12 h13 h14 h15 h16 h17 h18 h19 h20 h21 h22 h23 h24 kc1 kc2 kc3 kc4 kc5 kc6 kc7 kc8 kc9 kc10 kc11 kc12 kc13 kc14 kc15 kc16 kc17 kc18 kc19 kc20 kc21 kc22 kc23 kc24 V0 0 v0_textSize v0_from v0_to v0_token v0_name 0 (-1) v0_has v0_globals v0_procedures v0_statements v0_codes v0_blocks v0_open v0_opSize v0_deep c1 c2 c3 c4 c5 c6 c7 c8 c9 c10 c11 c12 c13 c14 c15 c16 c17 c18 c19 c20 c21 c22 c23 c24) := hD
  refine lv_aload_n hx hb dX11_read_15 rfl (lv_at hl 0 rfl) ?_
  refine lv_iconst (v := 0) hx hb dX11_read_16 (by decide +kernel) ?_
  refine va_put (D := (dC, dI)) (ci := 11) (v := .int 0) (ty := .int) (C := RX11) (T := TX11) (N := 71) hx hb hts inlX11 tyX11 tyX11_ok nmX11 hown hK hP hD hS 0 rfl rfl 22 (by decide) w6_ (fun _ h9 => h9) rfl (by decide +kernel) rfl rfl (Nat.le_of_ble_eq_true rfl) dX11_read_17 (fun H locs hP hD hS => ?_)
  have hP : va_P (dC, dI) vwCl (wX11_read h0 h1 h2 h3 h4 h5 h6 h7 h8 h9 h10 h11 h12 h13 h14 h15 h16 h17 h18 h19 h20 h21 h22 h23 h24 kc1 kc2 kc3 kc4 kc5 kc6 kc7 kc8 kc9 kc10 kc11 kc12 kc13 kc14 kc15 kc16 kc17 kc18 kc19 kc20 kc21 kc22 kc23 kc24 V0 0 v0_textSize v0_from 0 v0_token v0_name 0 (-1) v0_has v0_globals v0_procedures v0_statements v0_codes v0_blocks v0_open v0_opSize v0_deep c1 c2 c3 c4 c5 c6 c7 c8 c9 c10 c11 c12 c13 c14 c15 c16 c17 c18 c19 c20 c21 c22 c23 c24) H := hP
  have hD : va_D A (wX11_read h0 h1 h2 h3 h4 h5 h6 h7 h8 h9 h10 h11 h12 h13 h14 h15 h16 h17 h18 h19 h20 h21 h22 h23 h24 kc1 kc2 kc3 kc4 kc5 kc6 kc7 kc8 kc9 kc10 kc11 kc12 kc13 kc14 kc15 kc16 kc17 kc18 kc19 kc20 kc21 kc22 kc23 kc24 V0 0 v0_textSize v0_from 0 v0_token v0_name 0 (-1) v0_has v0_globals v0_procedures v0_statements v0_codes v0_blocks v0_open v0_opSize v0_deep c1 c2 c3 c4 c5 c6 c7 c8 c9 c10 c11 c12 c13 c14 c15 c16 c17 c18 c19 c20 c21 c22 c23 c24) := hD
  refine lv_aload_n hx hb dX11_read_20 rfl (lv_at hl 0 rfl) ?_
  obtain ⟨o4, e4, hf⟩ := ob_some hf
  refine kVv (As := []) (rest := []) ⟨hx, hb, hml, hown, hts⟩ (mX11_next l dC dI h0 h1 kc1 H.size base v0_textSize v0_from 0 v0_token v0_name c1 (fun k => match k with | 0 => .int 0 | 25 => .int 0 | 26 => .int (-1) | 27 => .int v0_has | 28 => .int v0_globals | 29 => .int v0_procedures | 30 => .int v0_statements | 31 => .ref h2 | 32 => .ref h4 | 33 => .ref h3 | 34 => .ref h5 | 35 => .ref h6 | 36 => .ref h11 | 37 => .ref h12 | 38 => .ref h13 | 39 => .ref h19 | 40 => .ref h16 | 41 => .ref h24 | 42 => .ref h14 | 43 => .ref h15 | 44 => .ref h17 | 45 => .ref h18 | 46 => .ref h21 | 47 => .int v0_codes | 48 => .ref h22 | 49 => .ref h23 | 50 => .int v0_blocks | 51 => .ref h7 | 52 => .ref h8 | 53 => .ref h9 | 54 => .int v0_open | 55 => .ref h10 | 56 => .ref h20 | 57 => .int v0_opSize | 58 => .int v0_deep | k => V0 k) o4 e4) (cwV 0 hts (gTV q797 q798 q799 q5 q800) rfl rfl rfl (by decide +kernel) ⟨Nat.le_of_ble_eq_true rfl, Nat.le_of_ble_eq_true rfl⟩) hK hP hD hS hA hE hAB [0, 1] [2, 3, 4, 5, 6, 7, 8, 9, 10, 11, 12, 13, 14, 15, 16, 17, 18, 19, 20, 21, 22, 23, 24] [0] (wr := [(h2, .inl (kc2, 3, .inr (.inl c2))), (h3, .inl (kc3, 6, .inl c3)), (h4, .inl (kc4, 12, .inr (.inl c4))), (h5, .inl (kc5, 6, .inr (.inl c5))), (h6, .inl (kc6, 6, .inl c6)), (h7, .inl (kc7, 90, .inl c7)), (h8, .inl (kc8, 90, .inl c8)), (h9, .inl (kc9, 90, .inl c9)), (h10, .inl (kc10, 12, .inl c10)), (h11, .inl (kc11, 40, .inl c11)), (h12, .inl (kc12, 40, .inl c12)), (h13, .inl (kc13, 40, .inl c13)), (h14, .inl (kc14, 40, .inl c14)), (h15, .inl (kc15, 40, .inl c15)), (h16, .inl (kc16, 80, .inl c16)), (h17, .inl (kc17, 40, .inl c17)), (h18, .inl (kc18, 40, .inl c18)), (h19, .inl (kc19, 40, .inl c19)), (h20, .inl (kc20, 700, .inl c20)), (h21, .inl (kc21, 700, .inl c21)), (h22, .inl (kc22, 40, .inr (.inl c22))), (h23, .inl (kc23, 40, .inl c23)), (h24, .inl (kc24, 40, .inl c24))]) rfl rfl (by decide) (by decide) (by decide) rfl (ci := 11) (q0 := 0) rfl rfl rfl rfl hl.1 rfl (Nat.le_of_ble_eq_true rfl) dX11_read_21 ⟨Nat.zero_le _, Nat.zero_le _⟩ (fun u4 H locs hw4 hP hD hS => ?_)
  have hw41 : o4 = u4 := Eq.symm hw4
  subst hw41
  have hP : va_P (dC, dI) vwCl (wX11_read h0 h1 h2 h3 h4 h5 h6 h7 h8 h9 h10 h11 h12 h13 h14 h15 h16 h17 h18 h19 h20 h21 h22 h23 h24 kc1 kc2 kc3 kc4 kc5 kc6 kc7 kc8 kc9 kc10 kc11 kc12 kc13 kc14 kc15 kc16 kc17 kc18 kc19 kc20 kc21 kc22 kc23 kc24 V0 0 v0_textSize o4.1 o4.2.1 o4.2.2.1 o4.2.2.2 0 (-1) v0_has v0_globals v0_procedures v0_statements v0_codes v0_blocks v0_open v0_opSize v0_deep c1 c2 c3 c4 c5 c6 c7 c8 c9 c10 c11 c12 c13 c14 c15 c16 c17 c18 c19 c20 c21 c22 c23 c24) H := hP.sub [23, 24, 0, 1, 2, 3, 4, 5, 6, 7, 8, 9, 10, 11, 12, 13, 14, 15, 16, 17, 18, 19, 20, 21, 22] rfl
  have hD : va_D A (wX11_read h0 h1 h2 h3 h4 h5 h6 h7 h8 h9 h10 h11 h12 h13 h14 h15 h16 h17 h18 h19 h20 h21 h22 h23 h24 kc1 kc2 kc3 kc4 kc5 kc6 kc7 kc8 kc9 kc10 kc11 kc12 kc13 kc14 kc15 kc16 kc17 kc18 kc19 kc20 kc21 kc22 kc23 kc24 V0 0 v0_textSize o4.1 o4.2.1 o4.2.2.1 o4.2.2.2 0 (-1) v0_has v0_globals v0_procedures v0_statements v0_codes v0_blocks v0_open v0_opSize v0_deep c1 c2 c3 c4 c5 c6 c7 c8 c9 c10 c11 c12 c13 c14 c15 c16 c17 c18 c19 c20 c21 c22 c23 c24) := hD.sub [23, 24, 0, 1, 2, 3, 4, 5, 6, 7, 8, 9, 10, 11, 12, 13, 14, 15, 16, 17, 18, 19, 20, 21, 22] (by decide) rfl
  refine lv_aload_n hx hb dX11_read_24 rfl (lv_at hl 0 rfl) ?_
  refine lv_aload_n hx hb dX11_read_25 rfl (lv_at hl 0 rfl) ?_
  obtain ⟨o5, e5, hf⟩ := ob_some hf
  refine kVi (As := []) (rest := [.ref h0]) ⟨hx, hb, hml, hown, hts⟩ (mX11_parse l dC dI h0 h1 h2 h3 h4 h5 h6 h7 h8 h9 h10 h11 h12 h13 h14 h15 h16 h17 h18 h19 h20 h21 h22 h23 kc1 kc2 kc3 kc4 kc5 kc6 kc7 kc8 kc9 kc10 kc11 kc12 kc13 kc14 kc15 kc16 kc17 kc18 kc19 kc20 kc21 kc22 kc23 H.size base v0_textSize o4.1 o4.2.1 o4.2.2.1 o4.2.2.2 0 (-1) v0_globals v0_procedures v0_statements v0_codes v0_blocks v0_open v0_opSize v0_deep c1 c2 c3 c4 c5 c6 c7 c8 c9 c10 c11 c12 c13 c14 c15 c16 c17 c18 c19 c20 c21 c22 c23 (fun k => match k with | 0 => .int 0 | 27 => .int v0_has | 41 => .ref h24 | k => V0 k) o5 e5) (cwV 0 hts (gTV q827 q828 q829 q5 q830) rfl rfl rfl (by decide +kernel) ⟨Nat.le_of_ble_eq_true rfl, Nat.le_of_ble_eq_true rfl⟩) hK hP hD hS hA hE hAB [0, 1, 2, 3, 4, 5, 6, 7, 8, 9, 10, 11, 12, 13, 14, 15, 16, 17, 18, 19, 20, 21, 22, 23] [24] [0, 1, 2, 3, 4, 5, 6, 7, 8, 9, 10, 11, 12, 13, 14, 15, 16, 17, 18, 19, 20, 21, 22] (wr := [(h24, .inl (kc24, 40, .inl c24))]) rfl rfl (by decide) (by decide) (by decide) rfl (ci := 11) (q0 := 0) rfl rfl rfl rfl hl.1 rfl (Nat.le_of_ble_eq_true rfl) dX11_read_26 ⟨Nat.zero_le _, Nat.zero_le _⟩ (fun r5 u5 H locs hw5 hP hD hS => ?_)
  obtain ⟨hw51, hw52⟩ := hw5
  subst hw51 hw52
  have hP : va_P (dC, dI) vwCl (wX11_read h0 h1 h2 h3 h4 h5 h6 h7 h8 h9 h10 h11 h12 h13 h14 h15 h16 h17 h18 h19 h20 h21 h22 h23 h24 kc1 kc2 kc3 kc4 kc5 kc6 kc7 kc8 kc9 kc10 kc11 kc12 kc13 kc14 kc15 kc16 kc17 kc18 kc19 kc20 kc21 kc22 kc23 kc24 V0 0 v0_textSize o5.2.1 o5.2.2.1 o5.2.2.2.1 o5.2.2.2.2.1 o5.2.2.2.2.2.1 o5.2.2.2.2.2.2.1 v0_has o5.2.2.2.2.2.2.2.1 o5.2.2.2.2.2.2.2.2.1 o5.2.2.2.2.2.2.2.2.2.1 o5.2.2.2.2.2.2.2.2.2.2.1 o5.2.2.2.2.2.2.2.2.2.2.2.1 o5.2.2.2.2.2.2.2.2.2.2.2.2.1 o5.2.2.2.2.2.2.2.2.2.2.2.2.2.1 o5.2.2.2.2.2.2.2.2.2.2.2.2.2.2.1 c1 o5.2.2.2.2.2.2.2.2.2.2.2.2.2.2.2.1 o5.2.2.2.2.2.2.2.2.2.2.2.2.2.2.2.2.1 o5.2.2.2.2.2.2.2.2.2.2.2.2.2.2.2.2.2.1 o5.2.2.2.2.2.2.2.2.2.2.2.2.2.2.2.2.2.2.1 o5.2.2.2.2.2.2.2.2.2.2.2.2.2.2.2.2.2.2.2.1 o5.2.2.2.2.2.2.2.2.2.2.2.2.2.2.2.2.2.2.2.2.1 o5.2.2.2.2.2.2.2.2.2.2.2.2.2.2.2.2.2.2.2.2.2.1 o5.2.2.2.2.2.2.2.2.2.2.2.2.2.2.2.2.2.2.2.2.2.2.1 o5.2.2.2.2.2.2.2.2.2.2.2.2.2.2.2.2.2.2.2.2.2.2.2.1 o5.2.2.2.2.2.2.2.2.2.2.2.2.2.2.2.2.2.2.2.2.2.2.2.2.1 o5.2.2.2.2.2.2.2.2.2.2.2.2.2.2.2.2.2.2.2.2.2.2.2.2.2.1 o5.2.2.2.2.2.2.2.2.2.2.2.2.2.2.2.2.2.2.2.2.2.2.2.2.2.2.1 o5.2.2.2.2.2.2.2.2.2.2.2.2.2.2.2.2.2.2.2.2.2.2.2.2.2.2.2.1 o5.2.2.2.2.2.2.2.2.2.2.2.2.2.2.2.2.2.2.2.2.2.2.2.2.2.2.2.2.1 o5.2.2.2.2.2.2.2.2.2.2.2.2.2.2.2.2.2.2.2.2.2.2.2.2.2.2.2.2.2.1 o5.2.2.2.2.2.2.2.2.2.2.2.2.2.2.2.2.2.2.2.2.2.2.2.2.2.2.2.2.2.2.1 o5.2.2.2.2.2.2.2.2.2.2.2.2.2.2.2.2.2.2.2.2.2.2.2.2.2.2.2.2.2.2.2.1 o5.2.2.2.2.2.2.2.2.2.2.2.2.2.2.2.2.2.2.2.2.2.2.2.2.2.2.2.2.2.2.2.2.1 o5.2.2.2.2.2.2.2.2.2.2.2.2.2.2.2.2.2.2.2.2.2.2.2.2.2.2.2.2.2.2.2.2.2.1 o5.2.2.2.2.2.2.2.2.2.2.2.2.2.2.2.2.2.2.2.2.2.2.2.2.2.2.2.2.2.2.2.2.2.2.1 o5.2.2.2.2.2.2.2.2.2.2.2.2.2.2.2.2.2.2.2.2.2.2.2.2.2.2.2.2.2.2.2.2.2.2.2.1 o5.2.2.2.2.2.2.2.2.2.2.2.2.2.2.2.2.2.2.2.2.2.2.2.2.2.2.2.2.2.2.2.2.2.2.2.2 c24) H := hP.sub [1, 2, 3, 4, 5, 6, 7, 8, 9, 10, 11, 12, 13, 14, 15, 16, 17, 18, 19, 20, 21, 22, 23, 24, 0] rfl
  have hD : va_D A (wX11_read h0 h1 h2 h3 h4 h5 h6 h7 h8 h9 h10 h11 h12 h13 h14 h15 h16 h17 h18 h19 h20 h21 h22 h23 h24 kc1 kc2 kc3 kc4 kc5 kc6 kc7 kc8 kc9 kc10 kc11 kc12 kc13 kc14 kc15 kc16 kc17 kc18 kc19 kc20 kc21 kc22 kc23 kc24 V0 0 v0_textSize o5.2.1 o5.2.2.1 o5.2.2.2.1 o5.2.2.2.2.1 o5.2.2.2.2.2.1 o5.2.2.2.2.2.2.1 v0_has o5.2.2.2.2.2.2.2.1 o5.2.2.2.2.2.2.2.2.1 o5.2.2.2.2.2.2.2.2.2.1 o5.2.2.2.2.2.2.2.2.2.2.1 o5.2.2.2.2.2.2.2.2.2.2.2.1 o5.2.2.2.2.2.2.2.2.2.2.2.2.1 o5.2.2.2.2.2.2.2.2.2.2.2.2.2.1 o5.2.2.2.2.2.2.2.2.2.2.2.2.2.2.1 c1 o5.2.2.2.2.2.2.2.2.2.2.2.2.2.2.2.1 o5.2.2.2.2.2.2.2.2.2.2.2.2.2.2.2.2.1 o5.2.2.2.2.2.2.2.2.2.2.2.2.2.2.2.2.2.1 o5.2.2.2.2.2.2.2.2.2.2.2.2.2.2.2.2.2.2.1 o5.2.2.2.2.2.2.2.2.2.2.2.2.2.2.2.2.2.2.2.1 o5.2.2.2.2.2.2.2.2.2.2.2.2.2.2.2.2.2.2.2.2.1 o5.2.2.2.2.2.2.2.2.2.2.2.2.2.2.2.2.2.2.2.2.2.1 o5.2.2.2.2.2.2.2.2.2.2.2.2.2.2.2.2.2.2.2.2.2.2.1 o5.2.2.2.2.2.2.2.2.2.2.2.2.2.2.2.2.2.2.2.2.2.2.2.1 o5.2.2.2.2.2.2.2.2.2.2.2.2.2.2.2.2.2.2.2.2.2.2.2.2.1 o5.2.2.2.2.2.2.2.2.2.2.2.2.2.2.2.2.2.2.2.2.2.2.2.2.2.1 o5.2.2.2.2.2.2.2.2.2.2.2.2.2.2.2.2.2.2.2.2.2.2.2.2.2.2.1 o5.2.2.2.2.2.2.2.2.2.2.2.2.2.2.2.2.2.2.2.2.2.2.2.2.2.2.2.1 o5.2.2.2.2.2.2.2.2.2.2.2.2.2.2.2.2.2.2.2.2.2.2.2.2.2.2.2.2.1 o5.2.2.2.2.2.2.2.2.2.2.2.2.2.2.2.2.2.2.2.2.2.2.2.2.2.2.2.2.2.1 o5.2.2.2.2.2.2.2.2.2.2.2.2.2.2.2.2.2.2.2.2.2.2.2.2.2.2.2.2.2.2.1 o5.2.2.2.2.2.2.2.2.2.2.2.2.2.2.2.2.2.2.2.2.2.2.2.2.2.2.2.2.2.2.2.1 o5.2.2.2.2.2.2.2.2.2.2.2.2.2.2.2.2.2.2.2.2.2.2.2.2.2.2.2.2.2.2.2.2.1 o5.2.2.2.2.2.2.2.2.2.2.2.2.2.2.2.2.2.2.2.2.2.2.2.2.2.2.2.2.2.2.2.2.2.1 o5.2.2.2.2.2.2.2.2.2.2.2.2.2.2.2.2.2.2.2.2.2.2.2.2.2.2.2.2.2.2.2.2.2.2.1 o5.2.2.2.2.2.2.2.2.2.2.2.2.2.2.2.2.2.2.2.2.2.2.2.2.2.2.2.2.2.2.2.2.2.2.2.1 o5.2.2.2.2.2.2.2.2.2.2.2.2.2.2.2.2.2.2.2.2.2.2.2.2.2.2.2.2.2.2.2.2.2.2.2.2 c24) := hD.sub [1, 2, 3, 4, 5, 6, 7, 8, 9, 10, 11, 12, 13, 14, 15, 16, 17, 18, 19, 20, 21, 22, 23, 24, 0] (by decide) rfl
  refine lv_if_eq (tgt := 43) hx hb dX11_read_29 (by decide) (fun cq6 => ?_) (fun cq6 => ?_)
  · replace hf := if_at hf cq6
    exact (hG _ _ _ _ _).mp (J43 0 v0_textSize o5.2.1 o5.2.2.1 o5.2.2.2.1 o5.2.2.2.2.1 o5.2.2.2.2.2.1 o5.2.2.2.2.2.2.1 v0_has o5.2.2.2.2.2.2.2.1 o5.2.2.2.2.2.2.2.2.1 o5.2.2.2.2.2.2.2.2.2.1 o5.2.2.2.2.2.2.2.2.2.2.1 o5.2.2.2.2.2.2.2.2.2.2.2.1 o5.2.2.2.2.2.2.2.2.2.2.2.2.1 o5.2.2.2.2.2.2.2.2.2.2.2.2.2.1 o5.2.2.2.2.2.2.2.2.2.2.2.2.2.2.1 o5.2.2.2.2.2.2.2.2.2.2.2.2.2.2.2.1 o5.2.2.2.2.2.2.2.2.2.2.2.2.2.2.2.2.1 o5.2.2.2.2.2.2.2.2.2.2.2.2.2.2.2.2.2.1 o5.2.2.2.2.2.2.2.2.2.2.2.2.2.2.2.2.2.2.1 o5.2.2.2.2.2.2.2.2.2.2.2.2.2.2.2.2.2.2.2.1 o5.2.2.2.2.2.2.2.2.2.2.2.2.2.2.2.2.2.2.2.2.1 o5.2.2.2.2.2.2.2.2.2.2.2.2.2.2.2.2.2.2.2.2.2.1 o5.2.2.2.2.2.2.2.2.2.2.2.2.2.2.2.2.2.2.2.2.2.2.1 o5.2.2.2.2.2.2.2.2.2.2.2.2.2.2.2.2.2.2.2.2.2.2.2.1 o5.2.2.2.2.2.2.2.2.2.2.2.2.2.2.2.2.2.2.2.2.2.2.2.2.1 o5.2.2.2.2.2.2.2.2.2.2.2.2.2.2.2.2.2.2.2.2.2.2.2.2.2.1 o5.2.2.2.2.2.2.2.2.2.2.2.2.2.2.2.2.2.2.2.2.2.2.2.2.2.2.1 o5.2.2.2.2.2.2.2.2.2.2.2.2.2.2.2.2.2.2.2.2.2.2.2.2.2.2.2.1 o5.2.2.2.2.2.2.2.2.2.2.2.2.2.2.2.2.2.2.2.2.2.2.2.2.2.2.2.2.1 o5.2.2.2.2.2.2.2.2.2.2.2.2.2.2.2.2.2.2.2.2.2.2.2.2.2.2.2.2.2.1 o5.2.2.2.2.2.2.2.2.2.2.2.2.2.2.2.2.2.2.2.2.2.2.2.2.2.2.2.2.2.2.1 o5.2.2.2.2.2.2.2.2.2.2.2.2.2.2.2.2.2.2.2.2.2.2.2.2.2.2.2.2.2.2.2.1 o5.2.2.2.2.2.2.2.2.2.2.2.2.2.2.2.2.2.2.2.2.2.2.2.2.2.2.2.2.2.2.2.2.1 o5.2.2.2.2.2.2.2.2.2.2.2.2.2.2.2.2.2.2.2.2.2.2.2.2.2.2.2.2.2.2.2.2.2.1 o5.2.2.2.2.2.2.2.2.2.2.2.2.2.2.2.2.2.2.2.2.2.2.2.2.2.2.2.2.2.2.2.2.2.2.1 o5.2.2.2.2.2.2.2.2.2.2.2.2.2.2.2.2.2.2.2.2.2.2.2.2.2.2.2.2.2.2.2.2.2.2.2.1 o5.2.2.2.2.2.2.2.2.2.2.2.2.2.2.2.2.2.2.2.2.2.2.2.2.2.2.2.2.2.2.2.2.2.2.2.2 c24 H locs ls (hP.sub [0, 1, 2, 3, 4, 5, 6, 7, 8, 9, 10, 11, 12, 13, 14, 15, 16, 17, 18, 19, 20, 21, 22, 23, 24] rfl) (hD.sub [0, 1, 2, 3, 4, 5, 6, 7, 8, 9, 10, 11, 12, 13, 14, 15, 16, 17, 18, 19, 20, 21, 22, 23, 24] (by decide) rfl) hS (lv_sub hl [0] rfl) hf)
  · replace hf := if_no hf cq6
    refine lv_aload_n hx hb dX11_read_32 rfl (lv_at hl 0 rfl) ?_
    obtain ⟨o7, e7, hf⟩ := ob_some hf
    refine kVi (As := []) (rest := [.ref h0]) ⟨hx, hb, hml, hown, hts⟩ (mX11_bind l dC dI h0 h11 h19 h5 h22 h23 h15 h14 h24 h8 h7 kc11 kc19 kc5 kc22 kc23 kc15 kc14 kc24 kc8 kc7 H.size base o5.2.2.2.2.2.1 o5.2.2.2.2.2.2.1 o5.2.2.2.2.2.2.2.2.1 o5.2.2.2.2.2.2.2.2.2.1 o5.2.2.2.2.2.2.2.2.2.2.2.2.2.2.2.2.2.2.2.2.2.2.2.2.1 o5.2.2.2.2.2.2.2.2.2.2.2.2.2.2.2.2.2.2.2.2.2.2.2.2.2.2.2.2.2.2.2.2.1 o5.2.2.2.2.2.2.2.2.2.2.2.2.2.2.2.2.2.2.1 o5.2.2.2.2.2.2.2.2.2.2.2.2.2.2.2.2.2.2.2.2.2.2.2.2.2.2.2.2.2.2.2.2.2.2.2.1 o5.2.2.2.2.2.2.2.2.2.2.2.2.2.2.2.2.2.2.2.2.2.2.2.2.2.2.2.2.2.2.2.2.2.2.2.2 o5.2.2.2.2.2.2.2.2.2.2.2.2.2.2.2.2.2.2.2.2.2.2.2.2.2.2.2.2.1 o5.2.2.2.2.2.2.2.2.2.2.2.2.2.2.2.2.2.2.2.2.2.2.2.2.2.2.2.1 c24 o5.2.2.2.2.2.2.2.2.2.2.2.2.2.2.2.2.2.2.2.2.2.1 o5.2.2.2.2.2.2.2.2.2.2.2.2.2.2.2.2.2.2.2.2.1 (fun k => match k with | 0 => .int 0 | 19 => .int v0_textSize | 20 => .ref h1 | 21 => .int o5.2.1 | 22 => .int o5.2.2.1 | 23 => .int o5.2.2.2.1 | 24 => .long o5.2.2.2.2.1 | 27 => .int v0_has | 28 => .int o5.2.2.2.2.2.2.2.1 | 31 => .ref h2 | 32 => .ref h4 | 33 => .ref h3 | 35 => .ref h6 | 37 => .ref h12 | 38 => .ref h13 | 40 => .ref h16 | 44 => .ref h17 | 45 => .ref h18 | 46 => .ref h21 | 47 => .int o5.2.2.2.2.2.2.2.2.2.2.1 | 50 => .int o5.2.2.2.2.2.2.2.2.2.2.2.1 | 53 => .ref h9 | 54 => .int o5.2.2.2.2.2.2.2.2.2.2.2.2.1 | 55 => .ref h10 | 56 => .ref h20 | 57 => .int o5.2.2.2.2.2.2.2.2.2.2.2.2.2.1 | 58 => .int o5.2.2.2.2.2.2.2.2.2.2.2.2.2.2.1 | k => V0 k) o7 e7) (cwV 0 hts (gTV q906 q907 q908 q5 q909) rfl rfl rfl (by decide +kernel) ⟨Nat.le_of_ble_eq_true rfl, Nat.le_of_ble_eq_true rfl⟩) hK hP hD hS hA hE hAB [0, 11, 19, 5, 22, 23, 15, 14, 24, 8, 7] [1, 2, 3, 4, 6, 9, 10, 12, 13, 16, 17, 18, 20, 21] [10, 18, 4, 21, 22, 14, 13, 23, 7, 6] (wr := [(h1, .inl (kc1, 600, .inl c1)), (h2, .inl (kc2, 3, .inr (.inl o5.2.2.2.2.2.2.2.2.2.2.2.2.2.2.2.1))), (h3, .inl (kc3, 6, .inl o5.2.2.2.2.2.2.2.2.2.2.2.2.2.2.2.2.1)), (h4, .inl (kc4, 12, .inr (.inl o5.2.2.2.2.2.2.2.2.2.2.2.2.2.2.2.2.2.1))), (h6, .inl (kc6, 6, .inl o5.2.2.2.2.2.2.2.2.2.2.2.2.2.2.2.2.2.2.2.1)), (h9, .inl (kc9, 90, .inl o5.2.2.2.2.2.2.2.2.2.2.2.2.2.2.2.2.2.2.2.2.2.2.1)), (h10, .inl (kc10, 12, .inl o5.2.2.2.2.2.2.2.2.2.2.2.2.2.2.2.2.2.2.2.2.2.2.2.1)), (h12, .inl (kc12, 40, .inl o5.2.2.2.2.2.2.2.2.2.2.2.2.2.2.2.2.2.2.2.2.2.2.2.2.2.1)), (h13, .inl (kc13, 40, .inl o5.2.2.2.2.2.2.2.2.2.2.2.2.2.2.2.2.2.2.2.2.2.2.2.2.2.2.1)), (h16, .inl (kc16, 80, .inl o5.2.2.2.2.2.2.2.2.2.2.2.2.2.2.2.2.2.2.2.2.2.2.2.2.2.2.2.2.2.1)), (h17, .inl (kc17, 40, .inl o5.2.2.2.2.2.2.2.2.2.2.2.2.2.2.2.2.2.2.2.2.2.2.2.2.2.2.2.2.2.2.1)), (h18, .inl (kc18, 40, .inl o5.2.2.2.2.2.2.2.2.2.2.2.2.2.2.2.2.2.2.2.2.2.2.2.2.2.2.2.2.2.2.2.1)), (h20, .inl (kc20, 700, .inl o5.2.2.2.2.2.2.2.2.2.2.2.2.2.2.2.2.2.2.2.2.2.2.2.2.2.2.2.2.2.2.2.2.2.1)), (h21, .inl (kc21, 700, .inl o5.2.2.2.2.2.2.2.2.2.2.2.2.2.2.2.2.2.2.2.2.2.2.2.2.2.2.2.2.2.2.2.2.2.2.1))]) rfl rfl (by decide) (by decide) (by decide) rfl (ci := 11) (q0 := 0) rfl rfl rfl rfl hl.1 rfl (Nat.le_of_ble_eq_true rfl) dX11_read_33 ⟨Nat.zero_le _, Nat.zero_le _⟩ (fun r7 u7 H locs hw7 hP hD hS => ?_)
    obtain ⟨hw71, hw72⟩ := hw7
    subst hw71 hw72
    have hP : va_P (dC, dI) vwCl (wX11_read h0 h1 h2 h3 h4 h5 h6 h7 h8 h9 h10 h11 h12 h13 h14 h15 h16 h17 h18 h19 h20 h21 h22 h23 h24 kc1 kc2 kc3 kc4 kc5 kc6 kc7 kc8 kc9 kc10 kc11 kc12 kc13 kc14 kc15 kc16 kc17 kc18 kc19 kc20 kc21 kc22 kc23 kc24 V0 0 v0_textSize o5.2.1 o5.2.2.1 o5.2.2.2.1 o5.2.2.2.2.1 o7.2.1 o7.2.2.1 v0_has o5.2.2.2.2.2.2.2.1 o5.2.2.2.2.2.2.2.2.1 o5.2.2.2.2.2.2.2.2.2.1 o5.2.2.2.2.2.2.2.2.2.2.1 o5.2.2.2.2.2.2.2.2.2.2.2.1 o5.2.2.2.2.2.2.2.2.2.2.2.2.1 o5.2.2.2.2.2.2.2.2.2.2.2.2.2.1 o5.2.2.2.2.2.2.2.2.2.2.2.2.2.2.1 c1 o5.2.2.2.2.2.2.2.2.2.2.2.2.2.2.2.1 o5.2.2.2.2.2.2.2.2.2.2.2.2.2.2.2.2.1 o5.2.2.2.2.2.2.2.2.2.2.2.2.2.2.2.2.2.1 o5.2.2.2.2.2.2.2.2.2.2.2.2.2.2.2.2.2.2.1 o5.2.2.2.2.2.2.2.2.2.2.2.2.2.2.2.2.2.2.2.1 o5.2.2.2.2.2.2.2.2.2.2.2.2.2.2.2.2.2.2.2.2.1 o5.2.2.2.2.2.2.2.2.2.2.2.2.2.2.2.2.2.2.2.2.2.1 o5.2.2.2.2.2.2.2.2.2.2.2.2.2.2.2.2.2.2.2.2.2.2.1 o5.2.2.2.2.2.2.2.2.2.2.2.2.2.2.2.2.2.2.2.2.2.2.2.1 o5.2.2.2.2.2.2.2.2.2.2.2.2.2.2.2.2.2.2.2.2.2.2.2.2.1 o5.2.2.2.2.2.2.2.2.2.2.2.2.2.2.2.2.2.2.2.2.2.2.2.2.2.1 o5.2.2.2.2.2.2.2.2.2.2.2.2.2.2.2.2.2.2.2.2.2.2.2.2.2.2.1 o5.2.2.2.2.2.2.2.2.2.2.2.2.2.2.2.2.2.2.2.2.2.2.2.2.2.2.2.1 o5.2.2.2.2.2.2.2.2.2.2.2.2.2.2.2.2.2.2.2.2.2.2.2.2.2.2.2.2.1 o5.2.2.2.2.2.2.2.2.2.2.2.2.2.2.2.2.2.2.2.2.2.2.2.2.2.2.2.2.2.1 o5.2.2.2.2.2.2.2.2.2.2.2.2.2.2.2.2.2.2.2.2.2.2.2.2.2.2.2.2.2.2.1 o5.2.2.2.2.2.2.2.2.2.2.2.2.2.2.2.2.2.2.2.2.2.2.2.2.2.2.2.2.2.2.2.1 o7.2.2.2.1 o5.2.2.2.2.2.2.2.2.2.2.2.2.2.2.2.2.2.2.2.2.2.2.2.2.2.2.2.2.2.2.2.2.2.1 o5.2.2.2.2.2.2.2.2.2.2.2.2.2.2.2.2.2.2.2.2.2.2.2.2.2.2.2.2.2.2.2.2.2.2.1 o5.2.2.2.2.2.2.2.2.2.2.2.2.2.2.2.2.2.2.2.2.2.2.2.2.2.2.2.2.2.2.2.2.2.2.2.1 o5.2.2.2.2.2.2.2.2.2.2.2.2.2.2.2.2.2.2.2.2.2.2.2.2.2.2.2.2.2.2.2.2.2.2.2.2 o7.2.2.2.2) H := hP.sub [14, 0, 1, 2, 3, 17, 4, 24, 23, 5, 6, 15, 7, 8, 21, 20, 9, 10, 11, 16, 12, 13, 18, 19, 22] rfl
    have hD : va_D A (wX11_read h0 h1 h2 h3 h4 h5 h6 h7 h8 h9 h10 h11 h12 h13 h14 h15 h16 h17 h18 h19 h20 h21 h22 h23 h24 kc1 kc2 kc3 kc4 kc5 kc6 kc7 kc8 kc9 kc10 kc11 kc12 kc13 kc14 kc15 kc16 kc17 kc18 kc19 kc20 kc21 kc22 kc23 kc24 V0 0 v0_textSize o5.2.1 o5.2.2.1 o5.2.2.2.1 o5.2.2.2.2.1 o7.2.1 o7.2.2.1 v0_has o5.2.2.2.2.2.2.2.1 o5.2.2.2.2.2.2.2.2.1 o5.2.2.2.2.2.2.2.2.2.1 o5.2.2.2.2.2.2.2.2.2.2.1 o5.2.2.2.2.2.2.2.2.2.2.2.1 o5.2.2.2.2.2.2.2.2.2.2.2.2.1 o5.2.2.2.2.2.2.2.2.2.2.2.2.2.1 o5.2.2.2.2.2.2.2.2.2.2.2.2.2.2.1 c1 o5.2.2.2.2.2.2.2.2.2.2.2.2.2.2.2.1 o5.2.2.2.2.2.2.2.2.2.2.2.2.2.2.2.2.1 o5.2.2.2.2.2.2.2.2.2.2.2.2.2.2.2.2.2.1 o5.2.2.2.2.2.2.2.2.2.2.2.2.2.2.2.2.2.2.1 o5.2.2.2.2.2.2.2.2.2.2.2.2.2.2.2.2.2.2.2.1 o5.2.2.2.2.2.2.2.2.2.2.2.2.2.2.2.2.2.2.2.2.1 o5.2.2.2.2.2.2.2.2.2.2.2.2.2.2.2.2.2.2.2.2.2.1 o5.2.2.2.2.2.2.2.2.2.2.2.2.2.2.2.2.2.2.2.2.2.2.1 o5.2.2.2.2.2.2.2.2.2.2.2.2.2.2.2.2.2.2.2.2.2.2.2.1 o5.2.2.2.2.2.2.2.2.2.2.2.2.2.2.2.2.2.2.2.2.2.2.2.2.1 o5.2.2.2.2.2.2.2.2.2.2.2.2.2.2.2.2.2.2.2.2.2.2.2.2.2.1 o5.2.2.2.2.2.2.2.2.2.2.2.2.2.2.2.2.2.2.2.2.2.2.2.2.2.2.1 o5.2.2.2.2.2.2.2.2.2.2.2.2.2.2.2.2.2.2.2.2.2.2.2.2.2.2.2.1 o5.2.2.2.2.2.2.2.2.2.2.2.2.2.2.2.2.2.2.2.2.2.2.2.2.2.2.2.2.1 o5.2.2.2.2.2.2.2.2.2.2.2.2.2.2.2.2.2.2.2.2.2.2.2.2.2.2.2.2.2.1 o5.2.2.2.2.2.2.2.2.2.2.2.2.2.2.2.2.2.2.2.2.2.2.2.2.2.2.2.2.2.2.1 o5.2.2.2.2.2.2.2.2.2.2.2.2.2.2.2.2.2.2.2.2.2.2.2.2.2.2.2.2.2.2.2.1 o7.2.2.2.1 o5.2.2.2.2.2.2.2.2.2.2.2.2.2.2.2.2.2.2.2.2.2.2.2.2.2.2.2.2.2.2.2.2.2.1 o5.2.2.2.2.2.2.2.2.2.2.2.2.2.2.2.2.2.2.2.2.2.2.2.2.2.2.2.2.2.2.2.2.2.2.1 o5.2.2.2.2.2.2.2.2.2.2.2.2.2.2.2.2.2.2.2.2.2.2.2.2.2.2.2.2.2.2.2.2.2.2.2.1 o5.2.2.2.2.2.2.2.2.2.2.2.2.2.2.2.2.2.2.2.2.2.2.2.2.2.2.2.2.2.2.2.2.2.2.2.2 o7.2.2.2.2) := hD.sub [14, 0, 1, 2, 3, 17, 4, 24, 23, 5, 6, 15, 7, 8, 21, 20, 9, 10, 11, 16, 12, 13, 18, 19, 22] (by decide) rfl
    refine lv_if_eq (tgt := 43) hx hb dX11_read_36 (by decide) (fun cq8 => ?_) (fun cq8 => ?_)
    · replace hf := if_at hf cq8
      exact (hG _ _ _ _ _).mp (J43 0 v0_textSize o5.2.1 o5.2.2.1 o5.2.2.2.1 o5.2.2.2.2.1 o7.2.1 o7.2.2.1 v0_has o5.2.2.2.2.2.2.2.1 o5.2.2.2.2.2.2.2.2.1 o5.2.2.2.2.2.2.2.2.2.1 o5.2.2.2.2.2.2.2.2.2.2.1 o5.2.2.2.2.2.2.2.2.2.2.2.1 o5.2.2.2.2.2.2.2.2.2.2.2.2.1 o5.2.2.2.2.2.2.2.2.2.2.2.2.2.1 o5.2.2.2.2.2.2.2.2.2.2.2.2.2.2.1 o5.2.2.2.2.2.2.2.2.2.2.2.2.2.2.2.1 o5.2.2.2.2.2.2.2.2.2.2.2.2.2.2.2.2.1 o5.2.2.2.2.2.2.2.2.2.2.2.2.2.2.2.2.2.1 o5.2.2.2.2.2.2.2.2.2.2.2.2.2.2.2.2.2.2.1 o5.2.2.2.2.2.2.2.2.2.2.2.2.2.2.2.2.2.2.2.1 o5.2.2.2.2.2.2.2.2.2.2.2.2.2.2.2.2.2.2.2.2.1 o5.2.2.2.2.2.2.2.2.2.2.2.2.2.2.2.2.2.2.2.2.2.1 o5.2.2.2.2.2.2.2.2.2.2.2.2.2.2.2.2.2.2.2.2.2.2.1 o5.2.2.2.2.2.2.2.2.2.2.2.2.2.2.2.2.2.2.2.2.2.2.2.1 o5.2.2.2.2.2.2.2.2.2.2.2.2.2.2.2.2.2.2.2.2.2.2.2.2.1 o5.2.2.2.2.2.2.2.2.2.2.2.2.2.2.2.2.2.2.2.2.2.2.2.2.2.1 o5.2.2.2.2.2.2.2.2.2.2.2.2.2.2.2.2.2.2.2.2.2.2.2.2.2.2.1 o5.2.2.2.2.2.2.2.2.2.2.2.2.2.2.2.2.2.2.2.2.2.2.2.2.2.2.2.1 o5.2.2.2.2.2.2.2.2.2.2.2.2.2.2.2.2.2.2.2.2.2.2.2.2.2.2.2.2.1 o5.2.2.2.2.2.2.2.2.2.2.2.2.2.2.2.2.2.2.2.2.2.2.2.2.2.2.2.2.2.1 o5.2.2.2.2.2.2.2.2.2.2.2.2.2.2.2.2.2.2.2.2.2.2.2.2.2.2.2.2.2.2.1 o5.2.2.2.2.2.2.2.2.2.2.2.2.2.2.2.2.2.2.2.2.2.2.2.2.2.2.2.2.2.2.2.1 o7.2.2.2.1 o5.2.2.2.2.2.2.2.2.2.2.2.2.2.2.2.2.2.2.2.2.2.2.2.2.2.2.2.2.2.2.2.2.2.1 o5.2.2.2.2.2.2.2.2.2.2.2.2.2.2.2.2.2.2.2.2.2.2.2.2.2.2.2.2.2.2.2.2.2.2.1 o5.2.2.2.2.2.2.2.2.2.2.2.2.2.2.2.2.2.2.2.2.2.2.2.2.2.2.2.2.2.2.2.2.2.2.2.1 o5.2.2.2.2.2.2.2.2.2.2.2.2.2.2.2.2.2.2.2.2.2.2.2.2.2.2.2.2.2.2.2.2.2.2.2.2 o7.2.2.2.2 H locs ls (hP.sub [0, 1, 2, 3, 4, 5, 6, 7, 8, 9, 10, 11, 12, 13, 14, 15, 16, 17, 18, 19, 20, 21, 22, 23, 24] rfl) (hD.sub [0, 1, 2, 3, 4, 5, 6, 7, 8, 9, 10, 11, 12, 13, 14, 15, 16, 17, 18, 19, 20, 21, 22, 23, 24] (by decide) rfl) hS (lv_sub hl [0] rfl) hf)
    · replace hf := if_no hf cq8
      refine lv_iconst (v := 1) hx hb dX11_read_39 (by decide +kernel) ?_
      refine lv_goto (tgt := 44) hx hb dX11_read_40 (by decide) ?_
      exact (hG _ _ _ _ _).mp (J44 1 0 v0_textSize o5.2.1 o5.2.2.1 o5.2.2.2.1 o5.2.2.2.2.1 o7.2.1 o7.2.2.1 v0_has o5.2.2.2.2.2.2.2.1 o5.2.2.2.2.2.2.2.2.1 o5.2.2.2.2.2.2.2.2.2.1 o5.2.2.2.2.2.2.2.2.2.2.1 o5.2.2.2.2.2.2.2.2.2.2.2.1 o5.2.2.2.2.2.2.2.2.2.2.2.2.1 o5.2.2.2.2.2.2.2.2.2.2.2.2.2.1 o5.2.2.2.2.2.2.2.2.2.2.2.2.2.2.1 o5.2.2.2.2.2.2.2.2.2.2.2.2.2.2.2.1 o5.2.2.2.2.2.2.2.2.2.2.2.2.2.2.2.2.1 o5.2.2.2.2.2.2.2.2.2.2.2.2.2.2.2.2.2.1 o5.2.2.2.2.2.2.2.2.2.2.2.2.2.2.2.2.2.2.1 o5.2.2.2.2.2.2.2.2.2.2.2.2.2.2.2.2.2.2.2.1 o5.2.2.2.2.2.2.2.2.2.2.2.2.2.2.2.2.2.2.2.2.1 o5.2.2.2.2.2.2.2.2.2.2.2.2.2.2.2.2.2.2.2.2.2.1 o5.2.2.2.2.2.2.2.2.2.2.2.2.2.2.2.2.2.2.2.2.2.2.1 o5.2.2.2.2.2.2.2.2.2.2.2.2.2.2.2.2.2.2.2.2.2.2.2.1 o5.2.2.2.2.2.2.2.2.2.2.2.2.2.2.2.2.2.2.2.2.2.2.2.2.1 o5.2.2.2.2.2.2.2.2.2.2.2.2.2.2.2.2.2.2.2.2.2.2.2.2.2.1 o5.2.2.2.2.2.2.2.2.2.2.2.2.2.2.2.2.2.2.2.2.2.2.2.2.2.2.1 o5.2.2.2.2.2.2.2.2.2.2.2.2.2.2.2.2.2.2.2.2.2.2.2.2.2.2.2.1 o5.2.2.2.2.2.2.2.2.2.2.2.2.2.2.2.2.2.2.2.2.2.2.2.2.2.2.2.2.1 o5.2.2.2.2.2.2.2.2.2.2.2.2.2.2.2.2.2.2.2.2.2.2.2.2.2.2.2.2.2.1 o5.2.2.2.2.2.2.2.2.2.2.2.2.2.2.2.2.2.2.2.2.2.2.2.2.2.2.2.2.2.2.1 o5.2.2.2.2.2.2.2.2.2.2.2.2.2.2.2.2.2.2.2.2.2.2.2.2.2.2.2.2.2.2.2.1 o7.2.2.2.1 o5.2.2.2.2.2.2.2.2.2.2.2.2.2.2.2.2.2.2.2.2.2.2.2.2.2.2.2.2.2.2.2.2.2.1 o5.2.2.2.2.2.2.2.2.2.2.2.2.2.2.2.2.2.2.2.2.2.2.2.2.2.2.2.2.2.2.2.2.2.2.1 o5.2.2.2.2.2.2.2.2.2.2.2.2.2.2.2.2.2.2.2.2.2.2.2.2.2.2.2.2.2.2.2.2.2.2.2.1 o5.2.2.2.2.2.2.2.2.2.2.2.2.2.2.2.2.2.2.2.2.2.2.2.2.2.2.2.2.2.2.2.2.2.2.2.2 o7.2.2.2.2 H locs ls (hP.sub [0, 1, 2, 3, 4, 5, 6, 7, 8, 9, 10, 11, 12, 13, 14, 15, 16, 17, 18, 19, 20, 21, 22, 23, 24] rfl) (hD.sub [0, 1, 2, 3, 4, 5, 6, 7, 8, 9, 10, 11, 12, 13, 14, 15, 16, 17, 18, 19, 20, 21, 22, 23, 24] (by decide) rfl) hS (lv_sub hl [0] rfl) hf)
abbrev wX11_rule (h0 h1 : Nat) (kc1 : ClassId) (V0 : Nat → Value) (v0_thrown : Int32) (v0_rules : Int32) (v0_known : Int32) (v0_wayState : Int32) (c1 : Nat → Int32) : va_W := [(h0, .inr (11, [.int v0_thrown, .int v0_rules, .ref h1, V0 3, V0 4, V0 5, V0 6, V0 7, .int v0_known, V0 9, .int v0_wayState, V0 11, V0 12, V0 13, V0 14, V0 15, V0 16, V0 17, V0 18, V0 19, V0 20, V0 21, V0 22, V0 23, V0 24, V0 25, V0 26, V0 27, V0 28, V0 29, V0 30, V0 31, V0 32, V0 33, V0 34, V0 35, V0 36, V0 37, V0 38, V0 39, V0 40, V0 41, V0 42, V0 43, V0 44, V0 45, V0 46, V0 47, V0 48, V0 49, V0 50, V0 51, V0 52, V0 53, V0 54, V0 55, V0 56, V0 57, V0 58, V0 59, V0 60, V0 61, V0 62, V0 63, V0 64, V0 65, V0 66, V0 67, V0 68, V0 69, V0 70])), (h1, .inl (kc1, 288, .inl c1))]
set_option maxHeartbeats 4000000 in
set_option maxRecDepth 100000 in
theorem mX11_rule (l : Launch) (dC : Nat → ClassId) (dI : Nat → Nat → Nat) (h0 h1 : Nat) (kc1 : ClassId) (sz : Nat) (base : Nat × Nat × Nat) (a0 : Int32) (a1 : Int32) (a2 : Int32) (a3 : Int32) (a4 : Int32) (a5 : Int32) (v0_thrown : Int32) (v0_rules : Int32) (v0_known : Int32) (v0_wayState : Int32) (c1 : Nat → Int32) (V0 : Nat → Value) (o : Int32 × Int32 × Int32 × Int32 × Int32 × (Nat → Int32)) (hf : fX11_rule a0 a1 a2 a3 a4 a5 v0_thrown v0_rules v0_known v0_wayState c1 = some o) : Met l yX11_rule (.code yX11_rule cX11_rule 7 (some .int) :: wsL_law) ({ frames := 1, cells := 0, slots := 0, locals := 22 }) (cPre (dC, dI) vwCl [.ref h0, .int a0, .int a1, .int a2, .int a3, .int a4, .int a5] sz base (wX11_rule h0 h1 kc1 V0 v0_thrown v0_rules v0_known v0_wayState c1) [(kc1, .int)]) (va_Qi (fun r u => r = o.1 ∧ u = o.2) (fun (u : Int32 × Int32 × Int32 × Int32 × (Nat → Int32)) t => cPost (dC, dI) vwCl (va_A (wX11_rule h0 h1 kc1 V0 v0_thrown v0_rules v0_known v0_wayState c1) sz) (wX11_rule h0 h1 kc1 V0 u.1 u.2.1 u.2.2.1 u.2.2.2.1 u.2.2.2.2) [(kc1, .int)] t) (va_A (wX11_rule h0 h1 kc1 V0 v0_thrown v0_rules v0_known v0_wayState c1) sz)) 0 0 (va_A (wX11_rule h0 h1 kc1 V0 v0_thrown v0_rules v0_known v0_wayState c1) sz) := by
  refine Met.ofW (cc := cX11_rule) (maxL := 7) (ret := (some .int)) (by decide) rfl ?_
  intro p e s m args below meth c s₁ B hml hv
  obtain ⟨rfl, hsz, hP, hK, hD0, hE⟩ := hv
  have hx := B.exec
  have hb := B.bytes
  have hr := B.returns
  have hts : ∀ w ∈ wsL_law, _ := fun w h => atoms_spec (ws := .code yX11_rule cX11_rule 7 (some .int) :: wsL_law) B.pre w (List.mem_cons_of_mem _ h)
  have hown : s.vm.findClass RX11 = some m.cls := findClass_of_methodNamed B.named
  have hlocks := B.notSynchronized
  have w0_ := hts _ q147
  have w1_ := hts _ q78
  have w2_ := hts _ q146
  subst hsz
  have hD := hD0.self (sz := s.heap.size)
  generalize hAe : va_A (wX11_rule h0 h1 kc1 V0 v0_thrown v0_rules v0_known v0_wayState c1) s.heap.size = A at hD ⊢
  have hA : ∀ q : Nat, s.heap.size ≤ q → A q := fun q h => by rw [← hAe]; exact Or.inr h
  have hAB : ∀ q : Nat, A q → base.1 ≤ q := fun q h => by rw [← hAe] at h; exact h.elim (fun ⟨k, e, hk⟩ => hD0.2 k _ hk) (fun hk => Nat.le_trans hE.1 hk)
  have hS : va_S A s.heap s.heap [] := va_S.rf
  have hl := lv_entry ([.ref h0, .int a0, .int a1, .int a2, .int a3, .int a4, .int a5]) (n := 7) (Nat.le_of_ble_eq_true rfl)
  rw [lg_entry_eq]
  generalize (lg_sl ([.ref h0, .int a0, .int a1, .int a2, .int a3, .int a4, .int a5]) ++ List.replicate (7 - (lg_sl ([.ref h0, .int a0, .int a1, .int a2, .int a3, .int a4, .int a5])).length) Slot.unset).toArray = ls at hl ⊢
  have hl : lv_has ls 7 [(0, .ref h0), (1, .int a0), (2, .int a1), (3, .int a2), (4, .int a3), (5, .int a4), (6, .int a5)] := hl
  have hP : va_P (dC, dI) vwCl (wX11_rule h0 h1 kc1 V0 v0_thrown v0_rules v0_known v0_wayState c1) s.heap := hP
  refine gl_intro (fun G hG => ?_)
  have J78 : ∀ (v0_thrown : Int32) (v0_rules : Int32) (v0_known : Int32) (v0_wayState : Int32) (c1 : (Nat → Int32)) (H : Heap) (locs : List Loc) (ls : Array Slot), va_P (dC, dI) vwCl (wX11_rule h0 h1 kc1 V0 v0_thrown v0_rules v0_known v0_wayState c1) H → va_D A (wX11_rule h0 h1 kc1 V0 v0_thrown v0_rules v0_known v0_wayState c1) → va_S A s.heap H locs → lv_has ls 7 [(0, .ref h0)] → fX11_rule_p78   v0_thrown v0_rules v0_known v0_wayState c1 = some o → G 0 0 H locs (F0 m 78 ls []) := by
    intro  v0_thrown v0_rules v0_known v0_wayState c1 H locs ls hP hD hS hl hf
    refine (hG _ _ _ _ _).mpr ?_
    unfold fX11_rule_p78 at hf
    refine lv_bipush (v := (-2)) hx hb dX11_rule_78 (by decide +kernel) ?_
    have hf1 := Option.some.inj hf
    subst hf1
    have hP9 := hP.sub (ws' := (wX11_rule h0 h1 kc1 V0 v0_thrown v0_rules v0_known v0_wayState c1)) [0, 1] rfl
    have hD9 := hD.sub (ws' := (wX11_rule h0 h1 kc1 V0 v0_thrown v0_rules v0_known v0_wayState c1)) [0, 1] (by decide) rfl
    exact W.iret (v := (-2)) hx hb hr (fun t ht hW => ⟨⟨(-2), (v0_thrown, v0_rules, v0_known, v0_wayState, c1), rfl, ⟨rfl, rfl⟩, by rw [ht]; exact hP9, va_K.moved hW.alike hK, hD9⟩, hS.F ht⟩) hS.2.2 dX11_rule_80
  have J81 : ∀ (y1 : Int32) (y2 : Int32) (y3 : Int32) (y4 : Int32) (y5 : Int32) (y6 : Int32) (v0_thrown : Int32) (v0_rules : Int32) (v0_known : Int32) (v0_wayState : Int32) (c1 : (Nat → Int32)) (H : Heap) (locs : List Loc) (ls : Array Slot), va_P (dC, dI) vwCl (wX11_rule h0 h1 kc1 V0 v0_thrown v0_rules v0_known v0_wayState c1) H → va_D A (wX11_rule h0 h1 kc1 V0 v0_thrown v0_rules v0_known v0_wayState c1) → va_S A s.heap H locs → lv_has ls 7 [(0, .ref h0), (1, .int y1), (2, .int y2), (3, .int y3), (4, .int y4), (5, .int y5), (6, .int y6)] → fX11_rule_p81   y1 y2 y3 y4 y5 y6 v0_thrown v0_rules v0_known v0_wayState c1 = some o → G 0 0 H locs (F0 m 81 ls []) := by
    intro  y1 y2 y3 y4 y5 y6 v0_thrown v0_rules v0_known v0_wayState c1 H locs ls hP hD hS hl hf
    refine (hG _ _ _ _ _).mpr ?_
    unfold fX11_rule_p81 at hf
    refine lv_aload_n hx hb dX11_rule_81 rfl (lv_at hl 0 rfl) ?_
    refine va_get (D := (dC, dI)) (ci := 11) (v := .int v0_rules) (C := RX11) (T := TX11) (N := 71) hx hb hts inlX11 hown hK hP 0 rfl rfl 1 (by decide) w0_ (fun _ h9 => h9) rfl dX11_rule_82 ?_
    refine lv_bipush (v := 48) hx hb dX11_rule_85 (by decide +kernel) ?_
    refine lv_icmp_ne (tgt := 93) hx hb dX11_rule_87 (by decide) (fun cq1 => ?_) (fun cq1 => ?_)
    · replace hf := if_no hf cq1
      refine lv_aload_n hx hb dX11_rule_93 rfl (lv_at hl 0 rfl) ?_
      refine va_get (D := (dC, dI)) (ci := 11) (v := .ref h1) (C := RX11) (T := TX11) (N := 71) hx hb hts inlX11 hown hK hP 0 rfl rfl 2 (by decide) w1_ (fun _ h9 => h9) rfl dX11_rule_94 ?_
      refine lv_bipush (v := 6) hx hb dX11_rule_97 (by decide +kernel) ?_
      refine lv_aload_n hx hb dX11_rule_99 rfl (lv_at hl 0 rfl) ?_
      refine va_get (D := (dC, dI)) (ci := 11) (v := .int v0_rules) (C := RX11) (T := TX11) (N := 71) hx hb hts inlX11 hown hK hP 0 rfl rfl 1 (by decide) w0_ (fun _ h9 => h9) rfl dX11_rule_100 ?_
      refine lv_imul hx hb dX11_rule_103 ?_
      refine lv_topi (fun x2 e2 => ?_)
      replace hf := nm_at hf e2
      refine lv_iload_n hx hb dX11_rule_104 rfl (lv_at hl 1 rfl) ?_
      have b3 := bd_in hf
      replace hf := bd_k hf
      obtain ⟨c3x, e3⟩ : ∃ y, y = upd c1 x2.toNatClampNeg y1 := ⟨_, rfl⟩
      replace hf := nm_at hf e3
      refine va_iast hx hb hK hP hD hS 1 0 rfl rfl b3 dX11_rule_105 (fun H locs hP hD hS => ?_)
      have hP : va_P (dC, dI) vwCl (wX11_rule h0 h1 kc1 V0 v0_thrown v0_rules v0_known v0_wayState c3x) H := by rw [e3]; exact hP
      have hD : va_D A (wX11_rule h0 h1 kc1 V0 v0_thrown v0_rules v0_known v0_wayState c3x) := by rw [e3]; exact hD
      refine lv_aload_n hx hb dX11_rule_106 rfl (lv_at hl 0 rfl) ?_
      refine va_get (D := (dC, dI)) (ci := 11) (v := .ref h1) (C := RX11) (T := TX11) (N := 71) hx hb hts inlX11 hown hK hP 0 rfl rfl 2 (by decide) w1_ (fun _ h9 => h9) rfl dX11_rule_107 ?_
      refine lv_bipush (v := 6) hx hb dX11_rule_110 (by decide +kernel) ?_
      refine lv_aload_n hx hb dX11_rule_112 rfl (lv_at hl 0 rfl) ?_
      refine va_get (D := (dC, dI)) (ci := 11) (v := .int v0_rules) (C := RX11) (T := TX11) (N := 71) hx hb hts inlX11 hown hK hP 0 rfl rfl 1 (by decide) w0_ (fun _ h9 => h9) rfl dX11_rule_113 ?_
      refine lv_imul hx hb dX11_rule_116 ?_
      refine lv_topi (fun x4 e4 => ?_)
      replace hf := nm_at hf e4
      refine lv_iconst (v := 1) hx hb dX11_rule_117 (by decide +kernel) ?_
      refine lv_iadd hx hb dX11_rule_118 ?_
      refine lv_topi (fun x5 e5 => ?_)
      replace hf := nm_at hf e5
      refine lv_iload_n hx hb dX11_rule_119 rfl (lv_at hl 2 rfl) ?_
      have b6 := bd_in hf
      replace hf := bd_k hf
      obtain ⟨c6x, e6⟩ : ∃ y, y = upd c3x x5.toNatClampNeg y2 := ⟨_, rfl⟩
      replace hf := nm_at hf e6
      refine va_iast hx hb hK hP hD hS 1 0 rfl rfl b6 dX11_rule_120 (fun H locs hP hD hS => ?_)
      have hP : va_P (dC, dI) vwCl (wX11_rule h0 h1 kc1 V0 v0_thrown v0_rules v0_known v0_wayState c6x) H := by rw [e6]; exact hP
      have hD : va_D A (wX11_rule h0 h1 kc1 V0 v0_thrown v0_rules v0_known v0_wayState c6x) := by rw [e6]; exact hD
      refine lv_aload_n hx hb dX11_rule_121 rfl (lv_at hl 0 rfl) ?_
      refine va_get (D := (dC, dI)) (ci := 11) (v := .ref h1) (C := RX11) (T := TX11) (N := 71) hx hb hts inlX11 hown hK hP 0 rfl rfl 2 (by decide) w1_ (fun _ h9 => h9) rfl dX11_rule_122 ?_
      refine lv_bipush (v := 6) hx hb dX11_rule_125 (by decide +kernel) ?_
      refine lv_aload_n hx hb dX11_rule_127 rfl (lv_at hl 0 rfl) ?_
      refine va_get (D := (dC, dI)) (ci := 11) (v := .int v0_rules) (C := RX11) (T := TX11) (N := 71) hx hb hts inlX11 hown hK hP 0 rfl rfl 1 (by decide) w0_ (fun _ h9 => h9) rfl dX11_rule_128 ?_
      refine lv_imul hx hb dX11_rule_131 ?_
      refine lv_topi (fun x7 e7 => ?_)
      replace hf := nm_at hf e7
      refine lv_iconst (v := 2) hx hb dX11_rule_132 (by decide +kernel) ?_
      refine lv_iadd hx hb dX11_rule_133 ?_
      refine lv_topi (fun x8 e8 => ?_)
      replace hf := nm_at hf e8
      refine lv_iload_n hx hb dX11_rule_134 rfl (lv_at hl 3 rfl) ?_
      have b9 := bd_in hf
      replace hf := bd_k hf
      obtain ⟨c9x, e9⟩ : ∃ y, y = upd c6x x8.toNatClampNeg y3 := ⟨_, rfl⟩
      replace hf := nm_at hf e9
      refine va_iast hx hb hK hP hD hS 1 0 rfl rfl b9 dX11_rule_135 (fun H locs hP hD hS => ?_)
      have hP : va_P (dC, dI) vwCl (wX11_rule h0 h1 kc1 V0 v0_thrown v0_rules v0_known v0_wayState c9x) H := by rw [e9]; exact hP
      have hD : va_D A (wX11_rule h0 h1 kc1 V0 v0_thrown v0_rules v0_known v0_wayState c9x) := by rw [e9]; exact hD
      refine lv_aload_n hx hb dX11_rule_136 rfl (lv_at hl 0 rfl) ?_
      refine va_get (D := (dC, dI)) (ci := 11) (v := .ref h1) (C := RX11) (T := TX11) (N := 71) hx hb hts inlX11 hown hK hP 0 rfl rfl 2 (by decide) w1_ (fun _ h9 => h9) rfl dX11_rule_137 ?_
      refine lv_bipush (v := 6) hx hb dX11_rule_140 (by decide +kernel) ?_
      refine lv_aload_n hx hb dX11_rule_142 rfl (lv_at hl 0 rfl) ?_
      refine va_get (D := (dC, dI)) (ci := 11) (v := .int v0_rules) (C := RX11) (T := TX11) (N := 71) hx hb hts inlX11 hown hK hP 0 rfl rfl 1 (by decide) w0_ (fun _ h9 => h9) rfl dX11_rule_143 ?_
      refine lv_imul hx hb dX11_rule_146 ?_
      refine lv_topi (fun x10 e10 => ?_)
      replace hf := nm_at hf e10
      refine lv_iconst (v := 3) hx hb dX11_rule_147 (by decide +kernel) ?_
      refine lv_iadd hx hb dX11_rule_148 ?_
      refine lv_topi (fun x11 e11 => ?_)
      replace hf := nm_at hf e11
      refine lv_iload hx hb dX11_rule_149 (lv_at hl 4 rfl) ?_
      have b12 := bd_in hf
      replace hf := bd_k hf
      obtain ⟨c12x, e12⟩ : ∃ y, y = upd c9x x11.toNatClampNeg y4 := ⟨_, rfl⟩
      replace hf := nm_at hf e12
      refine va_iast hx hb hK hP hD hS 1 0 rfl rfl b12 dX11_rule_151 (fun H locs hP hD hS => ?_)
      have hP : va_P (dC, dI) vwCl (wX11_rule h0 h1 kc1 V0 v0_thrown v0_rules v0_known v0_wayState c12x) H := by rw [e12]; exact hP
      have hD : va_D A (wX11_rule h0 h1 kc1 V0 v0_thrown v0_rules v0_known v0_wayState c12x) := by rw [e12]; exact hD
      refine lv_aload_n hx hb dX11_rule_152 rfl (lv_at hl 0 rfl) ?_
      refine va_get (D := (dC, dI)) (ci := 11) (v := .ref h1) (C := RX11) (T := TX11) (N := 71) hx hb hts inlX11 hown hK hP 0 rfl rfl 2 (by decide) w1_ (fun _ h9 => h9) rfl dX11_rule_153 ?_
      refine lv_bipush (v := 6) hx hb dX11_rule_156 (by decide +kernel) ?_
      refine lv_aload_n hx hb dX11_rule_158 rfl (lv_at hl 0 rfl) ?_
      refine va_get (D := (dC, dI)) (ci := 11) (v := .int v0_rules) (C := RX11) (T := TX11) (N := 71) hx hb hts inlX11 hown hK hP 0 rfl rfl 1 (by decide) w0_ (fun _ h9 => h9) rfl dX11_rule_159 ?_
      refine lv_imul hx hb dX11_rule_162 ?_
      refine lv_topi (fun x13 e13 => ?_)
      replace hf := nm_at hf e13
      refine lv_iconst (v := 4) hx hb dX11_rule_163 (by decide +kernel) ?_
      refine lv_iadd hx hb dX11_rule_164 ?_
      refine lv_topi (fun x14 e14 => ?_)
      replace hf := nm_at hf e14
      refine lv_iload hx hb dX11_rule_165 (lv_at hl 5 rfl) ?_
      have b15 := bd_in hf
      replace hf := bd_k hf
      obtain ⟨c15x, e15⟩ : ∃ y, y = upd c12x x14.toNatClampNeg y5 := ⟨_, rfl⟩
      replace hf := nm_at hf e15
      refine va_iast hx hb hK hP hD hS 1 0 rfl rfl b15 dX11_rule_167 (fun H locs hP hD hS => ?_)
      have hP : va_P (dC, dI) vwCl (wX11_rule h0 h1 kc1 V0 v0_thrown v0_rules v0_known v0_wayState c15x) H := by rw [e15]; exact hP
      have hD : va_D A (wX11_rule h0 h1 kc1 V0 v0_thrown v0_rules v0_known v0_wayState c15x) := by rw [e15]; exact hD
      refine lv_aload_n hx hb dX11_rule_168 rfl (lv_at hl 0 rfl) ?_
      refine va_get (D := (dC, dI)) (ci := 11) (v := .ref h1) (C := RX11) (T := TX11) (N := 71) hx hb hts inlX11 hown hK hP 0 rfl rfl 2 (by decide) w1_ (fun _ h9 => h9) rfl dX11_rule_169 ?_
      refine lv_bipush (v := 6) hx hb dX11_rule_172 (by decide +kernel) ?_
      refine lv_aload_n hx hb dX11_rule_174 rfl (lv_at hl 0 rfl) ?_
      refine va_get (D := (dC, dI)) (ci := 11) (v := .int v0_rules) (C := RX11) (T := TX11) (N := 71) hx hb hts inlX11 hown hK hP 0 rfl rfl 1 (by decide) w0_ (fun _ h9 => h9) rfl dX11_rule_175 ?_
      refine lv_imul hx hb dX11_rule_178 ?_
      refine lv_topi (fun x16 e16 => ?_)
      replace hf := nm_at hf e16
      refine lv_iconst (v := 5) hx hb dX11_rule_179 (by decide +kernel) ?_
      refine lv_iadd hx hb dX11_rule_180 ?_
      refine lv_topi (fun x17 e17 => ?_)
      replace hf := nm_at hf e17
      refine lv_iload hx hb dX11_rule_181 (lv_at hl 6 rfl) ?_
      have b18 := bd_in hf
      replace hf := bd_k hf
      obtain ⟨c18x, e18⟩ : ∃ y, y = upd c15x x17.toNatClampNeg y6 := ⟨_, rfl⟩
      replace hf := nm_at hf e18
      refine va_iast hx hb hK hP hD hS 1 0 rfl rfl b18 dX11_rule_183 (fun H locs hP hD hS => ?_)
      have hP : va_P (dC, dI) vwCl (wX11_rule h0 h1 kc1 V0 v0_thrown v0_rules v0_known v0_wayState c18x) H := by rw [e18]; exact hP
      have hD : va_D A (wX11_rule h0 h1 kc1 V0 v0_thrown v0_rules v0_known v0_wayState c18x) := by rw [e18]; exact hD
      refine lv_aload_n hx hb dX11_rule_184 rfl (lv_at hl 0 rfl) ?_
      refine lv_dup hx hb dX11_rule_185 rfl ?_
      refine va_get (D := (dC, dI)) (ci := 11) (v := .int v0_rules) (C := RX11) (T := TX11) (N := 71) hx hb hts inlX11 hown hK hP 0 rfl rfl 1 (by decide) w0_ (fun _ h9 => h9) rfl dX11_rule_186 ?_
      refine lv_iconst (v := 1) hx hb dX11_rule_189 (by decide +kernel) ?_
      refine lv_iadd hx hb dX11_rule_190 ?_
      refine lv_topi (fun x19 e19 => ?_)
      replace hf := nm_at hf e19
      refine va_put (D := (dC, dI)) (ci := 11) (v := .int x19) (ty := .int) (C := RX11) (T := TX11) (N := 71) hx hb hts inlX11 tyX11 tyX11_ok nmX11 hown hK hP hD hS 0 rfl rfl 1 (by decide) w0_ (fun _ h9 => h9) rfl (by decide +kernel) rfl rfl (Nat.le_of_ble_eq_true rfl) dX11_rule_191 (fun H locs hP hD hS => ?_)
      have hP : va_P (dC, dI) vwCl (wX11_rule h0 h1 kc1 V0 v0_thrown x19 v0_known v0_wayState c18x) H := hP
      have hD : va_D A (wX11_rule h0 h1 kc1 V0 v0_thrown x19 v0_known v0_wayState c18x) := hD
      refine lv_aload_n hx hb dX11_rule_194 rfl (lv_at hl 0 rfl) ?_
      obtain ⟨o20, e20, hf⟩ := ob_some hf
      refine kVv (As := []) (rest := []) ⟨hx, hb, hml, hown, hts⟩ (mX11_forget l dC dI h0 H.size base v0_known v0_wayState (fun k => match k with | 0 => .int v0_thrown | 1 => .int x19 | 2 => .ref h1 | k => V0 k) o20 e20) (cwV 0 hts (gTV q151 q152 q153 q5 q154) rfl rfl rfl (by decide +kernel) ⟨Nat.le_of_ble_eq_true rfl, Nat.le_of_ble_eq_true rfl⟩) hK hP hD hS hA hE hAB [0] [1] [] (wr := [(h1, .inl (kc1, 288, .inl c18x))]) rfl rfl (by decide) (by decide) (by decide) rfl (ci := 11) (q0 := 0) rfl rfl rfl rfl hl.1 rfl (Nat.le_of_ble_eq_true rfl) dX11_rule_195 ⟨Nat.zero_le _, Nat.zero_le _⟩ (fun u20 H locs hw20 hP hD hS => ?_)
      have hw201 : o20 = u20 := Eq.symm hw20
      subst hw201
      have hP : va_P (dC, dI) vwCl (wX11_rule h0 h1 kc1 V0 v0_thrown x19 o20.1 o20.2 c18x) H := hP.sub [1, 0] rfl
      have hD : va_D A (wX11_rule h0 h1 kc1 V0 v0_thrown x19 o20.1 o20.2 c18x) := hD.sub [1, 0] (by decide) rfl
      refine lv_aload_n hx hb dX11_rule_198 rfl (lv_at hl 0 rfl) ?_
      refine va_get (D := (dC, dI)) (ci := 11) (v := .int x19) (C := RX11) (T := TX11) (N := 71) hx hb hts inlX11 hown hK hP 0 rfl rfl 1 (by decide) w0_ (fun _ h9 => h9) rfl dX11_rule_199 ?_
      refine lv_iconst (v := 1) hx hb dX11_rule_202 (by decide +kernel) ?_
      refine lv_isub hx hb dX11_rule_203 ?_
      refine lv_topi (fun x21 e21 => ?_)
      replace hf := nm_at hf e21
      have hf1 := Option.some.inj hf
      subst hf1
      have hP9 := hP.sub (ws' := (wX11_rule h0 h1 kc1 V0 v0_thrown x19 o20.1 o20.2 c18x)) [0, 1] rfl
      have hD9 := hD.sub (ws' := (wX11_rule h0 h1 kc1 V0 v0_thrown x19 o20.1 o20.2 c18x)) [0, 1] (by decide) rfl
      exact W.iret (v := x21) hx hb hr (fun t ht hW => ⟨⟨x21, (v0_thrown, x19, o20.1, o20.2, c18x), rfl, ⟨rfl, rfl⟩, by rw [ht]; exact hP9, va_K.moved hW.alike hK, hD9⟩, hS.F ht⟩) hS.2.2 dX11_rule_204
    · replace hf := if_at hf cq1
      refine lv_bipush (v := (-3)) hx hb dX11_rule_90 (by decide +kernel) ?_
      have hf1 := Option.some.inj hf
      subst hf1
      have hP9 := hP.sub (ws' := (wX11_rule h0 h1 kc1 V0 v0_thrown v0_rules v0_known v0_wayState c1)) [0, 1] rfl
      have hD9 := hD.sub (ws' := (wX11_rule h0 h1 kc1 V0 v0_thrown v0_rules v0_known v0_wayState c1)) [0, 1] (by decide) rfl
      exact W.iret (v := (-3)) hx hb hr (fun t ht hW => ⟨⟨(-3), (v0_thrown, v0_rules, v0_known, v0_wayState, c1), rfl, ⟨rfl, rfl⟩, by rw [ht]; exact hP9, va_K.moved hW.alike hK, hD9⟩, hS.F ht⟩) hS.2.2 dX11_rule_92
  have J61 : ∀ (y1 : Int32) (y2 : Int32) (y3 : Int32) (y4 : Int32) (y5 : Int32) (y6 : Int32) (v0_thrown : Int32) (v0_rules : Int32) (v0_known : Int32) (v0_wayState : Int32) (c1 : (Nat → Int32)) (H : Heap) (locs : List Loc) (ls : Array Slot), va_P (dC, dI) vwCl (wX11_rule h0 h1 kc1 V0 v0_thrown v0_rules v0_known v0_wayState c1) H → va_D A (wX11_rule h0 h1 kc1 V0 v0_thrown v0_rules v0_known v0_wayState c1) → va_S A s.heap H locs → lv_has ls 7 [(0, .ref h0), (1, .int y1), (2, .int y2), (3, .int y3), (4, .int y4), (5, .int y5), (6, .int y6)] → fX11_rule_p61   y1 y2 y3 y4 y5 y6 v0_thrown v0_rules v0_known v0_wayState c1 = some o → G 0 0 H locs (F0 m 61 ls []) := by
    intro  y1 y2 y3 y4 y5 y6 v0_thrown v0_rules v0_known v0_wayState c1 H locs ls hP hD hS hl hf
    refine (hG _ _ _ _ _).mpr ?_
    unfold fX11_rule_p61 at hf
    refine lv_iload hx hb dX11_rule_61 (lv_at hl 4 rfl) ?_
    refine lv_iconst (v := 1) hx hb dX11_rule_63 (by decide +kernel) ?_
    refine lv_icmp_le (tgt := 81) hx hb dX11_rule_64 (by decide) (fun cq22 => ?_) (fun cq22 => ?_)
    · replace hf := if_at hf cq22
      exact (hG _ _ _ _ _).mp (J81 y1 y2 y3 y4 y5 y6 v0_thrown v0_rules v0_known v0_wayState c1 H locs ls (hP.sub [0, 1] rfl) (hD.sub [0, 1] (by decide) rfl) hS (lv_sub hl [0, 1, 2, 3, 4, 5, 6] rfl) hf)
    · replace hf := if_no hf cq22
      refine lv_iload hx hb dX11_rule_67 (lv_at hl 6 rfl) ?_
      refine lv_iconst (v := 0) hx hb dX11_rule_69 (by decide +kernel) ?_
      refine lv_bipush (v := 11) hx hb dX11_rule_70 (by decide +kernel) ?_
      obtain ⟨o23, e23, hf⟩ := ob_some hf
      refine kSi (As := [.int y6, .int 0, .int 11]) (rest := []) ⟨hx, hb, hml, hown, hts⟩ (mX11_in l dC dI H.size base y6 0 11 o23 e23) (va_cwS 3 hts (gTS q148 q149 q5 q150) rfl rfl rfl (by decide +kernel) ⟨Nat.le_of_ble_eq_true rfl, Nat.le_of_ble_eq_true rfl⟩) hK hP hD hS hA hE hAB [] [0, 1] [] (wr := (wX11_rule h0 h1 kc1 V0 v0_thrown v0_rules v0_known v0_wayState c1)) rfl rfl (by decide) (by decide) (by decide) rfl rfl hl.1 rfl (Nat.le_of_ble_eq_true rfl) dX11_rule_72 ⟨Nat.zero_le _, Nat.zero_le _⟩ (fun r23 u23 H locs hw23 hP hD hS => ?_)
      obtain ⟨hw231, hw232⟩ := hw23
      subst hw231 hw232
      have hP : va_P (dC, dI) vwCl (wX11_rule h0 h1 kc1 V0 v0_thrown v0_rules v0_known v0_wayState c1) H := hP.sub [0, 1] rfl
      have hD : va_D A (wX11_rule h0 h1 kc1 V0 v0_thrown v0_rules v0_known v0_wayState c1) := hD.sub [0, 1] (by decide) rfl
      refine lv_if_ne (tgt := 81) hx hb dX11_rule_75 (by decide) (fun cq24 => ?_) (fun cq24 => ?_)
      · replace hf := if_no hf cq24
        exact (hG _ _ _ _ _).mp (J81 y1 y2 y3 y4 y5 y6 v0_thrown v0_rules v0_known v0_wayState c1 H locs ls (hP.sub [0, 1] rfl) (hD.sub [0, 1] (by decide) rfl) hS (lv_sub hl [0, 1, 2, 3, 4, 5, 6] rfl) hf)
      · replace hf := if_at hf cq24
        exact (hG _ _ _ _ _).mp (J78 v0_thrown v0_rules v0_known v0_wayState c1 H locs ls (hP.sub [0, 1] rfl) (hD.sub [0, 1] (by decide) rfl) hS (lv_sub hl [0] rfl) hf)
  refine (hG _ _ _ _ _).mpr ?_
  obtain ⟨H, hH⟩ : ∃ H, H = s.heap := ⟨_, rfl⟩
  have hS : va_S A s.heap H [] := by rw [hH]; exact hS
  rw [← hH] at hP ⊢
  generalize ([] : List Loc) = locs at hS ⊢
  unfold fX11_rule at hf
  refine lv_aload_n hx hb dX11_rule_0 rfl (lv_at hl 0 rfl) ?_
  refine lv_iconst (v := 0) hx hb dX11_rule_1 (by decide +kernel) ?_
  refine va_put (D := (dC, dI)) (ci := 11) (v := .int 0) (ty := .int) (C := RX11) (T := TX11) (N := 71) hx hb hts inlX11 tyX11 tyX11_ok nmX11 hown hK hP hD hS 0 rfl rfl 0 (by decide) w2_ (fun _ h9 => h9) rfl (by decide +kernel) rfl rfl (Nat.le_of_ble_eq_true rfl) dX11_rule_2 (fun H locs hP hD hS => ?_)
  have hP : va_P (dC, dI) vwCl (wX11_rule h0 h1 kc1 V0 0 v0_rules v0_known v0_wayState c1) H := hP
  have hD : va_D A (wX11_rule h0 h1 kc1 V0 0 v0_rules v0_known v0_wayState c1) := hD
  refine lv_iload_n hx hb dX11_rule_5 rfl (lv_at hl 1 rfl) ?_
  refine lv_iconst (v := 0) hx hb dX11_rule_6 (by decide +kernel) ?_
  refine lv_bipush (v := 7) hx hb dX11_rule_7 (by decide +kernel) ?_
  obtain ⟨o25, e25, hf⟩ := ob_some hf
  refine kSi (As := [.int a0, .int 0, .int 7]) (rest := []) ⟨hx, hb, hml, hown, hts⟩ (mX11_in l dC dI H.size base a0 0 7 o25 e25) (va_cwS 3 hts (gTS q148 q149 q5 q150) rfl rfl rfl (by decide +kernel) ⟨Nat.le_of_ble_eq_true rfl, Nat.le_of_ble_eq_true rfl⟩) hK hP hD hS hA hE hAB [] [0, 1] [] (wr := (wX11_rule h0 h1 kc1 V0 0 v0_rules v0_known v0_wayState c1)) rfl rfl (by decide) (by decide) (by decide) rfl rfl hl.1 rfl (Nat.le_of_ble_eq_true rfl) dX11_rule_9 ⟨Nat.zero_le _, Nat.zero_le _⟩ (fun r25 u25 H locs hw25 hP hD hS => ?_)
  obtain ⟨hw251, hw252⟩ := hw25
  subst hw251 hw252
  have hP : va_P (dC, dI) vwCl (wX11_rule h0 h1 kc1 V0 0 v0_rules v0_known v0_wayState c1) H := hP.sub [0, 1] rfl
  have hD : va_D A (wX11_rule h0 h1 kc1 V0 0 v0_rules v0_known v0_wayState c1) := hD.sub [0, 1] (by decide) rfl
  refine lv_if_eq (tgt := 78) hx hb dX11_rule_12 (by decide) (fun cq26 => ?_) (fun cq26 => ?_)
  · replace hf := if_at hf cq26
    exact (hG _ _ _ _ _).mp (J78 0 v0_rules v0_known v0_wayState c1 H locs ls (hP.sub [0, 1] rfl) (hD.sub [0, 1] (by decide) rfl) hS (lv_sub hl [0] rfl) hf)
  · replace hf := if_no hf cq26
    refine lv_iload_n hx hb dX11_rule_15 rfl (lv_at hl 2 rfl) ?_
    refine lv_iconst (v := 0) hx hb dX11_rule_16 (by decide +kernel) ?_
    refine lv_bipush (v := 11) hx hb dX11_rule_17 (by decide +kernel) ?_
    obtain ⟨o27, e27, hf⟩ := ob_some hf
    refine kSi (As := [.int a1, .int 0, .int 11]) (rest := []) ⟨hx, hb, hml, hown, hts⟩ (mX11_in l dC dI H.size base a1 0 11 o27 e27) (va_cwS 3 hts (gTS q148 q149 q5 q150) rfl rfl rfl (by decide +kernel) ⟨Nat.le_of_ble_eq_true rfl, Nat.le_of_ble_eq_true rfl⟩) hK hP hD hS hA hE hAB [] [0, 1] [] (wr := (wX11_rule h0 h1 kc1 V0 0 v0_rules v0_known v0_wayState c1)) rfl rfl (by decide) (by decide) (by decide) rfl rfl hl.1 rfl (Nat.le_of_ble_eq_true rfl) dX11_rule_19 ⟨Nat.zero_le _, Nat.zero_le _⟩ (fun r27 u27 H locs hw27 hP hD hS => ?_)
    obtain ⟨hw271, hw272⟩ := hw27
    subst hw271 hw272
    have hP : va_P (dC, dI) vwCl (wX11_rule h0 h1 kc1 V0 0 v0_rules v0_known v0_wayState c1) H := hP.sub [0, 1] rfl
    have hD : va_D A (wX11_rule h0 h1 kc1 V0 0 v0_rules v0_known v0_wayState c1) := hD.sub [0, 1] (by decide) rfl
    refine lv_if_eq (tgt := 78) hx hb dX11_rule_22 (by decide) (fun cq28 => ?_) (fun cq28 => ?_)
    · replace hf := if_at hf cq28
      exact (hG _ _ _ _ _).mp (J78 0 v0_rules v0_known v0_wayState c1 H locs ls (hP.sub [0, 1] rfl) (hD.sub [0, 1] (by decide) rfl) hS (lv_sub hl [0] rfl) hf)
    · replace hf := if_no hf cq28
      refine lv_iload_n hx hb dX11_rule_25 rfl (lv_at hl 3 rfl) ?_
      refine lv_iconst (v := 0) hx hb dX11_rule_26 (by decide +kernel) ?_
      refine lv_bipush (v := 7) hx hb dX11_rule_27 (by decide +kernel) ?_
      obtain ⟨o29, e29, hf⟩ := ob_some hf
      refine kSi (As := [.int a2, .int 0, .int 7]) (rest := []) ⟨hx, hb, hml, hown, hts⟩ (mX11_in l dC dI H.size base a2 0 7 o29 e29) (va_cwS 3 hts (gTS q148 q149 q5 q150) rfl rfl rfl (by decide +kernel) ⟨Nat.le_of_ble_eq_true rfl, Nat.le_of_ble_eq_true rfl⟩) hK hP hD hS hA hE hAB [] [0, 1] [] (wr := (wX11_rule h0 h1 kc1 V0 0 v0_rules v0_known v0_wayState c1)) rfl rfl (by decide) (by decide) (by decide) rfl rfl hl.1 rfl (Nat.le_of_ble_eq_true rfl) dX11_rule_29 ⟨Nat.zero_le _, Nat.zero_le _⟩ (fun r29 u29 H locs hw29 hP hD hS => ?_)
      obtain ⟨hw291, hw292⟩ := hw29
      subst hw291 hw292
      have hP : va_P (dC, dI) vwCl (wX11_rule h0 h1 kc1 V0 0 v0_rules v0_known v0_wayState c1) H := hP.sub [0, 1] rfl
      have hD : va_D A (wX11_rule h0 h1 kc1 V0 0 v0_rules v0_known v0_wayState c1) := hD.sub [0, 1] (by decide) rfl
      refine lv_if_eq (tgt := 78) hx hb dX11_rule_32 (by decide) (fun cq30 => ?_) (fun cq30 => ?_)
      · replace hf := if_at hf cq30
        exact (hG _ _ _ _ _).mp (J78 0 v0_rules v0_known v0_wayState c1 H locs ls (hP.sub [0, 1] rfl) (hD.sub [0, 1] (by decide) rfl) hS (lv_sub hl [0] rfl) hf)
      · replace hf := if_no hf cq30
        refine lv_iload hx hb dX11_rule_35 (lv_at hl 4 rfl) ?_
        refine lv_iconst (v := 0) hx hb dX11_rule_37 (by decide +kernel) ?_
        refine lv_iconst (v := 2) hx hb dX11_rule_38 (by decide +kernel) ?_
        obtain ⟨o31, e31, hf⟩ := ob_some hf
        refine kSi (As := [.int a3, .int 0, .int 2]) (rest := []) ⟨hx, hb, hml, hown, hts⟩ (mX11_in l dC dI H.size base a3 0 2 o31 e31) (va_cwS 3 hts (gTS q148 q149 q5 q150) rfl rfl rfl (by decide +kernel) ⟨Nat.le_of_ble_eq_true rfl, Nat.le_of_ble_eq_true rfl⟩) hK hP hD hS hA hE hAB [] [0, 1] [] (wr := (wX11_rule h0 h1 kc1 V0 0 v0_rules v0_known v0_wayState c1)) rfl rfl (by decide) (by decide) (by decide) rfl rfl hl.1 rfl (Nat.le_of_ble_eq_true rfl) dX11_rule_39 ⟨Nat.zero_le _, Nat.zero_le _⟩ (fun r31 u31 H locs hw31 hP hD hS => ?_)
        obtain ⟨hw311, hw312⟩ := hw31
        subst hw311 hw312
        have hP : va_P (dC, dI) vwCl (wX11_rule h0 h1 kc1 V0 0 v0_rules v0_known v0_wayState c1) H := hP.sub [0, 1] rfl
        have hD : va_D A (wX11_rule h0 h1 kc1 V0 0 v0_rules v0_known v0_wayState c1) := hD.sub [0, 1] (by decide) rfl
        refine lv_if_eq (tgt := 78) hx hb dX11_rule_42 (by decide) (fun cq32 => ?_) (fun cq32 => ?_)
        · replace hf := if_at hf cq32
          exact (hG _ _ _ _ _).mp (J78 0 v0_rules v0_known v0_wayState c1 H locs ls (hP.sub [0, 1] rfl) (hD.sub [0, 1] (by decide) rfl) hS (lv_sub hl [0] rfl) hf)
        · replace hf := if_no hf cq32
          refine lv_iload hx hb dX11_rule_45 (lv_at hl 4 rfl) ?_
          refine lv_if_le (tgt := 61) hx hb dX11_rule_47 (by decide) (fun cq33 => ?_) (fun cq33 => ?_)
          · replace hf := if_at hf cq33
            exact (hG _ _ _ _ _).mp (J61 a0 a1 a2 a3 a4 a5 0 v0_rules v0_known v0_wayState c1 H locs ls (hP.sub [0, 1] rfl) (hD.sub [0, 1] (by decide) rfl) hS (lv_sub hl [0, 1, 2, 3, 4, 5, 6] rfl) hf)
          · replace hf := if_no hf cq33
            refine lv_iload hx hb dX11_rule_50 (lv_at hl 5 rfl) ?_
            refine lv_iconst (v := 0) hx hb dX11_rule_52 (by decide +kernel) ?_
            refine lv_bipush (v := 11) hx hb dX11_rule_53 (by decide +kernel) ?_
            obtain ⟨o34, e34, hf⟩ := ob_some hf
            refine kSi (As := [.int a4, .int 0, .int 11]) (rest := []) ⟨hx, hb, hml, hown, hts⟩ (mX11_in l dC dI H.size base a4 0 11 o34 e34) (va_cwS 3 hts (gTS q148 q149 q5 q150) rfl rfl rfl (by decide +kernel) ⟨Nat.le_of_ble_eq_true rfl, Nat.le_of_ble_eq_true rfl⟩) hK hP hD hS hA hE hAB [] [0, 1] [] (wr := (wX11_rule h0 h1 kc1 V0 0 v0_rules v0_known v0_wayState c1)) rfl rfl (by decide) (by decide) (by decide) rfl rfl hl.1 rfl (Nat.le_of_ble_eq_true rfl) dX11_rule_55 ⟨Nat.zero_le _, Nat.zero_le _⟩ (fun r34 u34 H locs hw34 hP hD hS => ?_)
            obtain ⟨hw341, hw342⟩ := hw34
            subst hw341 hw342
            have hP : va_P (dC, dI) vwCl (wX11_rule h0 h1 kc1 V0 0 v0_rules v0_known v0_wayState c1) H := hP.sub [0, 1] rfl
            have hD : va_D A (wX11_rule h0 h1 kc1 V0 0 v0_rules v0_known v0_wayState c1) := hD.sub [0, 1] (by decide) rfl
            refine lv_if_eq (tgt := 78) hx hb dX11_rule_58 (by decide) (fun cq35 => ?_) (fun cq35 => ?_)
            · replace hf := if_at hf cq35
              exact (hG _ _ _ _ _).mp (J78 0 v0_rules v0_known v0_wayState c1 H locs ls (hP.sub [0, 1] rfl) (hD.sub [0, 1] (by decide) rfl) hS (lv_sub hl [0] rfl) hf)
            · replace hf := if_no hf cq35
              exact (hG _ _ _ _ _).mp (J61 a0 a1 a2 a3 a4 a5 0 v0_rules v0_known v0_wayState c1 H locs ls (hP.sub [0, 1] rfl) (hD.sub [0, 1] (by decide) rfl) hS (lv_sub hl [0, 1, 2, 3, 4, 5, 6] rfl) hf)
abbrev wX11_told (h0 h1 h2 h3 : Nat) (kc1 kc2 kc3 : ClassId) (V0 : Nat → Value) (v0_thrown : Int32) (v0_has : Int32) (v0_globals : Int32) (v0_procedures : Int32) (v0_statements : Int32) (c1 : Nat → Int32) (c2 : Nat → Int32) (c3 : Nat → Int32) : va_W := [(h0, .inr (11, [.int v0_thrown, V0 1, V0 2, V0 3, V0 4, V0 5, V0 6, V0 7, V0 8, V0 9, V0 10, V0 11, V0 12, V0 13, V0 14, V0 15, V0 16, V0 17, V0 18, V0 19, V0 20, V0 21, V0 22, V0 23, V0 24, V0 25, V0 26, .int v0_has, .int v0_globals, .int v0_procedures, .int v0_statements, V0 31, V0 32, V0 33, V0 34, V0 35, .ref h3, .ref h1, .ref h2, V0 39, V0 40, V0 41, V0 42, V0 43, V0 44, V0 45, V0 46, V0 47, V0 48, V0 49, V0 50, V0 51, V0 52, V0 53, V0 54, V0 55, V0 56, V0 57, V0 58, V0 59, V0 60, V0 61, V0 62, V0 63, V0 64, V0 65, V0 66, V0 67, V0 68, V0 69, V0 70])), (h1, .inl (kc1, 40, .inl c1)), (h2, .inl (kc2, 40, .inl c2)), (h3, .inl (kc3, 40, .inl c3))]
set_option maxHeartbeats 4000000 in
set_option maxRecDepth 100000 in
theorem mX11_told (l : Launch) (dC : Nat → ClassId) (dI : Nat → Nat → Nat) (h0 h1 h2 h3 : Nat) (kc1 kc2 kc3 : ClassId) (sz : Nat) (base : Nat × Nat × Nat) (a0 : Int32) (a1 : Int32) (v0_thrown : Int32) (v0_has : Int32) (v0_globals : Int32) (v0_procedures : Int32) (v0_statements : Int32) (c1 : Nat → Int32) (c2 : Nat → Int32) (c3 : Nat → Int32) (V0 : Nat → Value) (o : Int32 × Int32) (hf : fX11_told a0 a1 v0_thrown v0_has v0_globals v0_procedures v0_statements c1 c2 c3 = some o) : Met l yX11_told (.code yX11_told cX11_told 3 (some .int) :: wsL_law) ({ frames := 1, cells := 0, slots := 0, locals := 22 }) (cPre (dC, dI) vwCl [.ref h0, .int a0, .int a1] sz base (wX11_told h0 h1 h2 h3 kc1 kc2 kc3 V0 v0_thrown v0_has v0_globals v0_procedures v0_statements c1 c2 c3) [(kc1, .int), (kc2, .int), (kc3, .int)]) (va_Qi (fun r u => r = o.1 ∧ u = o.2) (fun (u : Int32) t => cPost (dC, dI) vwCl (va_A (wX11_told h0 h1 h2 h3 kc1 kc2 kc3 V0 v0_thrown v0_has v0_globals v0_procedures v0_statements c1 c2 c3) sz) (wX11_told h0 h1 h2 h3 kc1 kc2 kc3 V0 u v0_has v0_globals v0_procedures v0_statements c1 c2 c3) [(kc1, .int), (kc2, .int), (kc3, .int)] t) (va_A (wX11_told h0 h1 h2 h3 kc1 kc2 kc3 V0 v0_thrown v0_has v0_globals v0_procedures v0_statements c1 c2 c3) sz)) 0 0 (va_A (wX11_told h0 h1 h2 h3 kc1 kc2 kc3 V0 v0_thrown v0_has v0_globals v0_procedures v0_statements c1 c2 c3) sz) := by
  refine Met.ofW (cc := cX11_told) (maxL := 3) (ret := (some .int)) (by decide) rfl ?_
  intro p e s m args below meth c s₁ B hml hv
  obtain ⟨rfl, hsz, hP, hK, hD0, hE⟩ := hv
  have hx := B.exec
  have hb := B.bytes
  have hr := B.returns
  have hts : ∀ w ∈ wsL_law, _ := fun w h => atoms_spec (ws := .code yX11_told cX11_told 3 (some .int) :: wsL_law) B.pre w (List.mem_cons_of_mem _ h)
  have hown : s.vm.findClass RX11 = some m.cls := findClass_of_methodNamed B.named
  have hlocks := B.notSynchronized
  have w0_ := hts _ q146
  have w1_ := hts _ q795
  have w2_ := hts _ q796
  have w3_ := hts _ q101
  have w4_ := hts _ q103
  have w5_ := hts _ q102
  have w6_ := hts _ q832
  have w7_ := hts _ q831
  subst hsz
  have hD := hD0.self (sz := s.heap.size)
  generalize hAe : va_A (wX11_told h0 h1 h2 h3 kc1 kc2 kc3 V0 v0_thrown v0_has v0_globals v0_procedures v0_statements c1 c2 c3) s.heap.size = A at hD ⊢
  have hA : ∀ q : Nat, s.heap.size ≤ q → A q := fun q h => by rw [← hAe]; exact Or.inr h
  have hAB : ∀ q : Nat, A q → base.1 ≤ q := fun q h => by rw [← hAe] at h; exact h.elim (fun ⟨k, e, hk⟩ => hD0.2 k _ hk) (fun hk => Nat.le_trans hE.1 hk)
  have hS : va_S A s.heap s.heap [] := va_S.rf
  have hl := lv_entry ([.ref h0, .int a0, .int a1]) (n := 3) (Nat.le_of_ble_eq_true rfl)
  rw [lg_entry_eq]
  generalize (lg_sl ([.ref h0, .int a0, .int a1]) ++ List.replicate (3 - (lg_sl ([.ref h0, .int a0, .int a1])).length) Slot.unset).toArray = ls at hl ⊢
  have hl : lv_has ls 3 [(0, .ref h0), (1, .int a0), (2, .int a1)] := hl
  have hP : va_P (dC, dI) vwCl (wX11_told h0 h1 h2 h3 kc1 kc2 kc3 V0 v0_thrown v0_has v0_globals v0_procedures v0_statements c1 c2 c3) s.heap := hP
  refine gl_intro (fun G hG => ?_)
  have J83 : ∀ (v0_thrown : Int32) (H : Heap) (locs : List Loc) (ls : Array Slot), va_P (dC, dI) vwCl (wX11_told h0 h1 h2 h3 kc1 kc2 kc3 V0 v0_thrown v0_has v0_globals v0_procedures v0_statements c1 c2 c3) H → va_D A (wX11_told h0 h1 h2 h3 kc1 kc2 kc3 V0 v0_thrown v0_has v0_globals v0_procedures v0_statements c1 c2 c3) → va_S A s.heap H locs → lv_has ls 3 [(0, .ref h0)] → fX11_told_p83 v0_has v0_globals v0_procedures v0_statements c1 c2 c3  v0_thrown = some o → G 0 0 H locs (F0 m 83 ls []) := by
    intro  v0_thrown H locs ls hP hD hS hl hf
    refine (hG _ _ _ _ _).mpr ?_
    unfold fX11_told_p83 at hf
    refine lv_bipush (v := (-2)) hx hb dX11_told_83 (by decide +kernel) ?_
    have hf1 := Option.some.inj hf
    subst hf1
    have hP9 := hP.sub (ws' := (wX11_told h0 h1 h2 h3 kc1 kc2 kc3 V0 v0_thrown v0_has v0_globals v0_procedures v0_statements c1 c2 c3)) [0, 1, 2, 3] rfl
    have hD9 := hD.sub (ws' := (wX11_told h0 h1 h2 h3 kc1 kc2 kc3 V0 v0_thrown v0_has v0_globals v0_procedures v0_statements c1 c2 c3)) [0, 1, 2, 3] (by decide) rfl
    exact W.iret (v := (-2)) hx hb hr (fun t ht hW => ⟨⟨(-2), v0_thrown, rfl, ⟨rfl, rfl⟩, by rw [ht]; exact hP9, va_K.moved hW.alike hK, hD9⟩, hS.F ht⟩) hS.2.2 dX11_told_85
  have J120 : ∀ (z0 : Int32) (v0_thrown : Int32) (H : Heap) (locs : List Loc) (ls : Array Slot), va_P (dC, dI) vwCl (wX11_told h0 h1 h2 h3 kc1 kc2 kc3 V0 v0_thrown v0_has v0_globals v0_procedures v0_statements c1 c2 c3) H → va_D A (wX11_told h0 h1 h2 h3 kc1 kc2 kc3 V0 v0_thrown v0_has v0_globals v0_procedures v0_statements c1 c2 c3) → va_S A s.heap H locs → lv_has ls 3 [(0, .ref h0)] → fX11_told_p120 v0_has v0_globals v0_procedures v0_statements c1 c2 c3  z0 v0_thrown = some o → G 0 0 H locs (F0 m 120 ls [.int z0]) := by
    intro  z0 v0_thrown H locs ls hP hD hS hl hf
    refine (hG _ _ _ _ _).mpr ?_
    unfold fX11_told_p120 at hf
    have hf1 := Option.some.inj hf
    subst hf1
    have hP9 := hP.sub (ws' := (wX11_told h0 h1 h2 h3 kc1 kc2 kc3 V0 v0_thrown v0_has v0_globals v0_procedures v0_statements c1 c2 c3)) [0, 1, 2, 3] rfl
    have hD9 := hD.sub (ws' := (wX11_told h0 h1 h2 h3 kc1 kc2 kc3 V0 v0_thrown v0_has v0_globals v0_procedures v0_statements c1 c2 c3)) [0, 1, 2, 3] (by decide) rfl
    exact W.iret (v := z0) hx hb hr (fun t ht hW => ⟨⟨z0, v0_thrown, rfl, ⟨rfl, rfl⟩, by rw [ht]; exact hP9, va_K.moved hW.alike hK, hD9⟩, hS.F ht⟩) hS.2.2 dX11_told_120
  have J52 : ∀ (z0 : Int32) (v0_thrown : Int32) (H : Heap) (locs : List Loc) (ls : Array Slot), va_P (dC, dI) vwCl (wX11_told h0 h1 h2 h3 kc1 kc2 kc3 V0 v0_thrown v0_has v0_globals v0_procedures v0_statements c1 c2 c3) H → va_D A (wX11_told h0 h1 h2 h3 kc1 kc2 kc3 V0 v0_thrown v0_has v0_globals v0_procedures v0_statements c1 c2 c3) → va_S A s.heap H locs → lv_has ls 3 [(0, .ref h0)] → fX11_told_p52 v0_has v0_globals v0_procedures v0_statements c1 c2 c3  z0 v0_thrown = some o → G 0 0 H locs (F0 m 52 ls [.int z0]) := by
    intro  z0 v0_thrown H locs ls hP hD hS hl hf
    refine (hG _ _ _ _ _).mpr ?_
    unfold fX11_told_p52 at hf
    have hf1 := Option.some.inj hf
    subst hf1
    have hP9 := hP.sub (ws' := (wX11_told h0 h1 h2 h3 kc1 kc2 kc3 V0 v0_thrown v0_has v0_globals v0_procedures v0_statements c1 c2 c3)) [0, 1, 2, 3] rfl
    have hD9 := hD.sub (ws' := (wX11_told h0 h1 h2 h3 kc1 kc2 kc3 V0 v0_thrown v0_has v0_globals v0_procedures v0_statements c1 c2 c3)) [0, 1, 2, 3] (by decide) rfl
    exact W.iret (v := z0) hx hb hr (fun t ht hW => ⟨⟨z0, v0_thrown, rfl, ⟨rfl, rfl⟩, by rw [ht]; exact hP9, va_K.moved hW.alike hK, hD9⟩, hS.F ht⟩) hS.2.2 dX11_told_52
  refine (hG _ _ _ _ _).mpr ?_
  obtain ⟨H, hH⟩ : ∃ H, H = s.heap := ⟨_, rfl⟩
  have hS : va_S A s.heap H [] := by rw [hH]; exact hS
  rw [← hH] at hP ⊢
  generalize ([] : List Loc) = locs at hS ⊢
  unfold fX11_told at hf
  refine lv_aload_n hx hb dX11_told_0 rfl (lv_at hl 0 rfl) ?_
  refine lv_iconst (v := 0) hx hb dX11_told_1 (by decide +kernel) ?_
  refine va_put (D := (dC, dI)) (ci := 11) (v := .int 0) (ty := .int) (C := RX11) (T := TX11) (N := 71) hx hb hts inlX11 tyX11 tyX11_ok nmX11 hown hK hP hD hS 0 rfl rfl 0 (by decide) w0_ (fun _ h9 => h9) rfl (by decide +kernel) rfl rfl (Nat.le_of_ble_eq_true rfl) dX11_told_2 (fun H locs hP hD hS => ?_)
  have hP : va_P (dC, dI) vwCl (wX11_told h0 h1 h2 h3 kc1 kc2 kc3 V0 0 v0_has v0_globals v0_procedures v0_statements c1 c2 c3) H := hP
  have hD : va_D A (wX11_told h0 h1 h2 h3 kc1 kc2 kc3 V0 0 v0_has v0_globals v0_procedures v0_statements c1 c2 c3) := hD
  refine lv_iload_n hx hb dX11_told_5 rfl (lv_at hl 1 rfl) ?_
  refine lv_iconst (v := 0) hx hb dX11_told_6 (by decide +kernel) ?_
  refine lv_iconst (v := 2) hx hb dX11_told_7 (by decide +kernel) ?_
  obtain ⟨o1, e1, hf⟩ := ob_some hf
  refine kSi (As := [.int a0, .int 0, .int 2]) (rest := []) ⟨hx, hb, hml, hown, hts⟩ (mX11_in l dC dI H.size base a0 0 2 o1 e1) (va_cwS 3 hts (gTS q148 q149 q5 q150) rfl rfl rfl (by decide +kernel) ⟨Nat.le_of_ble_eq_true rfl, Nat.le_of_ble_eq_true rfl⟩) hK hP hD hS hA hE hAB [] [0, 1, 2, 3] [] (wr := (wX11_told h0 h1 h2 h3 kc1 kc2 kc3 V0 0 v0_has v0_globals v0_procedures v0_statements c1 c2 c3)) rfl rfl (by decide) (by decide) (by decide) rfl rfl hl.1 rfl (Nat.le_of_ble_eq_true rfl) dX11_told_8 ⟨Nat.zero_le _, Nat.zero_le _⟩ (fun r1 u1 H locs hw1 hP hD hS => ?_)
  obtain ⟨hw11, hw12⟩ := hw1
  subst hw11 hw12
  have hP : va_P (dC, dI) vwCl (wX11_told h0 h1 h2 h3 kc1 kc2 kc3 V0 0 v0_has v0_globals v0_procedures v0_statements c1 c2 c3) H := hP.sub [0, 1, 2, 3] rfl
  have hD : va_D A (wX11_told h0 h1 h2 h3 kc1 kc2 kc3 V0 0 v0_has v0_globals v0_procedures v0_statements c1 c2 c3) := hD.sub [0, 1, 2, 3] (by decide) rfl
  refine lv_if_eq (tgt := 53) hx hb dX11_told_11 (by decide) (fun cq2 => ?_) (fun cq2 => ?_)
  · replace hf := if_at hf cq2
    refine lv_iload_n hx hb dX11_told_53 rfl (lv_at hl 1 rfl) ?_
    refine lv_iconst (v := 3) hx hb dX11_told_54 (by decide +kernel) ?_
    refine lv_iconst (v := 5) hx hb dX11_told_55 (by decide +kernel) ?_
    obtain ⟨o3, e3, hf⟩ := ob_some hf
    refine kSi (As := [.int a0, .int 3, .int 5]) (rest := []) ⟨hx, hb, hml, hown, hts⟩ (mX11_in l dC dI H.size base a0 3 5 o3 e3) (va_cwS 3 hts (gTS q148 q149 q5 q150) rfl rfl rfl (by decide +kernel) ⟨Nat.le_of_ble_eq_true rfl, Nat.le_of_ble_eq_true rfl⟩) hK hP hD hS hA hE hAB [] [0, 1, 2, 3] [] (wr := (wX11_told h0 h1 h2 h3 kc1 kc2 kc3 V0 0 v0_has v0_globals v0_procedures v0_statements c1 c2 c3)) rfl rfl (by decide) (by decide) (by decide) rfl rfl hl.1 rfl (Nat.le_of_ble_eq_true rfl) dX11_told_56 ⟨Nat.zero_le _, Nat.zero_le _⟩ (fun r3 u3 H locs hw3 hP hD hS => ?_)
    obtain ⟨hw31, hw32⟩ := hw3
    subst hw31 hw32
    have hP : va_P (dC, dI) vwCl (wX11_told h0 h1 h2 h3 kc1 kc2 kc3 V0 0 v0_has v0_globals v0_procedures v0_statements c1 c2 c3) H := hP.sub [0, 1, 2, 3] rfl
    have hD : va_D A (wX11_told h0 h1 h2 h3 kc1 kc2 kc3 V0 0 v0_has v0_globals v0_procedures v0_statements c1 c2 c3) := hD.sub [0, 1, 2, 3] (by decide) rfl
    refine lv_if_eq (tgt := 83) hx hb dX11_told_59 (by decide) (fun cq4 => ?_) (fun cq4 => ?_)
    · replace hf := if_at hf cq4
      exact (hG _ _ _ _ _).mp (J83 0 H locs ls (hP.sub [0, 1, 2, 3] rfl) (hD.sub [0, 1, 2, 3] (by decide) rfl) hS (lv_sub hl [0] rfl) hf)
    · replace hf := if_no hf cq4
      refine lv_aload_n hx hb dX11_told_62 rfl (lv_at hl 0 rfl) ?_
      refine va_get (D := (dC, dI)) (ci := 11) (v := .int v0_has) (C := RX11) (T := TX11) (N := 71) hx hb hts inlX11 hown hK hP 0 rfl rfl 27 (by decide) w1_ (fun _ h9 => h9) rfl dX11_told_63 ?_
      refine lv_if_eq (tgt := 83) hx hb dX11_told_66 (by decide) (fun cq5 => ?_) (fun cq5 => ?_)
      · replace hf := if_at hf cq5
        exact (hG _ _ _ _ _).mp (J83 0 H locs ls (hP.sub [0, 1, 2, 3] rfl) (hD.sub [0, 1, 2, 3] (by decide) rfl) hS (lv_sub hl [0] rfl) hf)
      · replace hf := if_no hf cq5
        refine lv_iload_n hx hb dX11_told_69 rfl (lv_at hl 2 rfl) ?_
        refine lv_iconst (v := 0) hx hb dX11_told_70 (by decide +kernel) ?_
        refine lv_aload_n hx hb dX11_told_71 rfl (lv_at hl 0 rfl) ?_
        refine va_get (D := (dC, dI)) (ci := 11) (v := .int v0_statements) (C := RX11) (T := TX11) (N := 71) hx hb hts inlX11 hown hK hP 0 rfl rfl 30 (by decide) w2_ (fun _ h9 => h9) rfl dX11_told_72 ?_
        refine lv_iconst (v := 1) hx hb dX11_told_75 (by decide +kernel) ?_
        refine lv_isub hx hb dX11_told_76 ?_
        refine lv_topi (fun x6 e6 => ?_)
        replace hf := nm_at hf e6
        obtain ⟨o7, e7, hf⟩ := ob_some hf
        refine kSi (As := [.int a1, .int 0, .int x6]) (rest := []) ⟨hx, hb, hml, hown, hts⟩ (mX11_in l dC dI H.size base a1 0 x6 o7 e7) (va_cwS 3 hts (gTS q148 q149 q5 q150) rfl rfl rfl (by decide +kernel) ⟨Nat.le_of_ble_eq_true rfl, Nat.le_of_ble_eq_true rfl⟩) hK hP hD hS hA hE hAB [] [0, 1, 2, 3] [] (wr := (wX11_told h0 h1 h2 h3 kc1 kc2 kc3 V0 0 v0_has v0_globals v0_procedures v0_statements c1 c2 c3)) rfl rfl (by decide) (by decide) (by decide) rfl rfl hl.1 rfl (Nat.le_of_ble_eq_true rfl) dX11_told_77 ⟨Nat.zero_le _, Nat.zero_le _⟩ (fun r7 u7 H locs hw7 hP hD hS => ?_)
        obtain ⟨hw71, hw72⟩ := hw7
        subst hw71 hw72
        have hP : va_P (dC, dI) vwCl (wX11_told h0 h1 h2 h3 kc1 kc2 kc3 V0 0 v0_has v0_globals v0_procedures v0_statements c1 c2 c3) H := hP.sub [0, 1, 2, 3] rfl
        have hD : va_D A (wX11_told h0 h1 h2 h3 kc1 kc2 kc3 V0 0 v0_has v0_globals v0_procedures v0_statements c1 c2 c3) := hD.sub [0, 1, 2, 3] (by decide) rfl
        refine lv_if_ne (tgt := 86) hx hb dX11_told_80 (by decide) (fun cq8 => ?_) (fun cq8 => ?_)
        · replace hf := if_no hf cq8
          refine lv_iload_n hx hb dX11_told_86 rfl (lv_at hl 1 rfl) ?_
          refine lv_iconst (v := 3) hx hb dX11_told_87 (by decide +kernel) ?_
          refine lv_icmp_ne (tgt := 100) hx hb dX11_told_88 (by decide) (fun cq9 => ?_) (fun cq9 => ?_)
          · replace hf := if_no hf cq9
            refine lv_iload_n hx hb dX11_told_100 rfl (lv_at hl 1 rfl) ?_
            refine lv_iconst (v := 4) hx hb dX11_told_101 (by decide +kernel) ?_
            refine lv_icmp_ne (tgt := 114) hx hb dX11_told_102 (by decide) (fun cq10 => ?_) (fun cq10 => ?_)
            · replace hf := if_no hf cq10
              refine lv_aload_n hx hb dX11_told_114 rfl (lv_at hl 0 rfl) ?_
              refine va_get (D := (dC, dI)) (ci := 11) (v := .ref h3) (C := RX11) (T := TX11) (N := 71) hx hb hts inlX11 hown hK hP 0 rfl rfl 36 (by decide) w3_ (fun _ h9 => h9) rfl dX11_told_115 ?_
              refine lv_iload_n hx hb dX11_told_118 rfl (lv_at hl 2 rfl) ?_
              have b11 := bd_in hf
              replace hf := bd_k hf
              refine va_iald hx hb hK hP 3 2 rfl rfl b11 dX11_told_119 ?_
              refine lv_topi (fun x12 e12 => ?_)
              replace hf := nm_at hf e12
              exact (hG _ _ _ _ _).mp (J120 x12 0 H locs ls (hP.sub [0, 1, 2, 3] rfl) (hD.sub [0, 1, 2, 3] (by decide) rfl) hS (lv_sub hl [0] rfl) hf)
            · replace hf := if_at hf cq10
              refine lv_aload_n hx hb dX11_told_105 rfl (lv_at hl 0 rfl) ?_
              refine va_get (D := (dC, dI)) (ci := 11) (v := .ref h2) (C := RX11) (T := TX11) (N := 71) hx hb hts inlX11 hown hK hP 0 rfl rfl 38 (by decide) w4_ (fun _ h9 => h9) rfl dX11_told_106 ?_
              refine lv_iload_n hx hb dX11_told_109 rfl (lv_at hl 2 rfl) ?_
              have b13 := bd_in hf
              replace hf := bd_k hf
              refine va_iald hx hb hK hP 2 1 rfl rfl b13 dX11_told_110 ?_
              refine lv_topi (fun x14 e14 => ?_)
              replace hf := nm_at hf e14
              refine lv_goto (tgt := 120) hx hb dX11_told_111 (by decide) ?_
              exact (hG _ _ _ _ _).mp (J120 x14 0 H locs ls (hP.sub [0, 1, 2, 3] rfl) (hD.sub [0, 1, 2, 3] (by decide) rfl) hS (lv_sub hl [0] rfl) hf)
          · replace hf := if_at hf cq9
            refine lv_aload_n hx hb dX11_told_91 rfl (lv_at hl 0 rfl) ?_
            refine va_get (D := (dC, dI)) (ci := 11) (v := .ref h1) (C := RX11) (T := TX11) (N := 71) hx hb hts inlX11 hown hK hP 0 rfl rfl 37 (by decide) w5_ (fun _ h9 => h9) rfl dX11_told_92 ?_
            refine lv_iload_n hx hb dX11_told_95 rfl (lv_at hl 2 rfl) ?_
            have b15 := bd_in hf
            replace hf := bd_k hf
            refine va_iald hx hb hK hP 1 0 rfl rfl b15 dX11_told_96 ?_
            refine lv_topi (fun x16 e16 => ?_)
            replace hf := nm_at hf e16
            refine lv_goto (tgt := 120) hx hb dX11_told_97 (by decide) ?_
            exact (hG _ _ _ _ _).mp (J120 x16 0 H locs ls (hP.sub [0, 1, 2, 3] rfl) (hD.sub [0, 1, 2, 3] (by decide) rfl) hS (lv_sub hl [0] rfl) hf)
        · replace hf := if_at hf cq8
          exact (hG _ _ _ _ _).mp (J83 0 H locs ls (hP.sub [0, 1, 2, 3] rfl) (hD.sub [0, 1, 2, 3] (by decide) rfl) hS (lv_sub hl [0] rfl) hf)
  · replace hf := if_no hf cq2
    refine lv_aload_n hx hb dX11_told_14 rfl (lv_at hl 0 rfl) ?_
    refine va_get (D := (dC, dI)) (ci := 11) (v := .int v0_has) (C := RX11) (T := TX11) (N := 71) hx hb hts inlX11 hown hK hP 0 rfl rfl 27 (by decide) w1_ (fun _ h9 => h9) rfl dX11_told_15 ?_
    refine lv_if_ne (tgt := 25) hx hb dX11_told_18 (by decide) (fun cq17 => ?_) (fun cq17 => ?_)
    · replace hf := if_no hf cq17
      refine lv_iload_n hx hb dX11_told_25 rfl (lv_at hl 1 rfl) ?_
      refine lv_if_ne (tgt := 36) hx hb dX11_told_26 (by decide) (fun cq18 => ?_) (fun cq18 => ?_)
      · replace hf := if_no hf cq18
        refine lv_iload_n hx hb dX11_told_36 rfl (lv_at hl 1 rfl) ?_
        refine lv_iconst (v := 1) hx hb dX11_told_37 (by decide +kernel) ?_
        refine lv_icmp_ne (tgt := 48) hx hb dX11_told_38 (by decide) (fun cq19 => ?_) (fun cq19 => ?_)
        · replace hf := if_no hf cq19
          refine lv_aload_n hx hb dX11_told_48 rfl (lv_at hl 0 rfl) ?_
          refine va_get (D := (dC, dI)) (ci := 11) (v := .int v0_statements) (C := RX11) (T := TX11) (N := 71) hx hb hts inlX11 hown hK hP 0 rfl rfl 30 (by decide) w2_ (fun _ h9 => h9) rfl dX11_told_49 ?_
          exact (hG _ _ _ _ _).mp (J52 v0_statements 0 H locs ls (hP.sub [0, 1, 2, 3] rfl) (hD.sub [0, 1, 2, 3] (by decide) rfl) hS (lv_sub hl [0] rfl) hf)
        · replace hf := if_at hf cq19
          refine lv_aload_n hx hb dX11_told_41 rfl (lv_at hl 0 rfl) ?_
          refine va_get (D := (dC, dI)) (ci := 11) (v := .int v0_procedures) (C := RX11) (T := TX11) (N := 71) hx hb hts inlX11 hown hK hP 0 rfl rfl 29 (by decide) w6_ (fun _ h9 => h9) rfl dX11_told_42 ?_
          refine lv_goto (tgt := 52) hx hb dX11_told_45 (by decide) ?_
          exact (hG _ _ _ _ _).mp (J52 v0_procedures 0 H locs ls (hP.sub [0, 1, 2, 3] rfl) (hD.sub [0, 1, 2, 3] (by decide) rfl) hS (lv_sub hl [0] rfl) hf)
      · replace hf := if_at hf cq18
        refine lv_aload_n hx hb dX11_told_29 rfl (lv_at hl 0 rfl) ?_
        refine va_get (D := (dC, dI)) (ci := 11) (v := .int v0_globals) (C := RX11) (T := TX11) (N := 71) hx hb hts inlX11 hown hK hP 0 rfl rfl 28 (by decide) w7_ (fun _ h9 => h9) rfl dX11_told_30 ?_
        refine lv_goto (tgt := 52) hx hb dX11_told_33 (by decide) ?_
        exact (hG _ _ _ _ _).mp (J52 v0_globals 0 H locs ls (hP.sub [0, 1, 2, 3] rfl) (hD.sub [0, 1, 2, 3] (by decide) rfl) hS (lv_sub hl [0] rfl) hf)
    · replace hf := if_at hf cq17
      refine lv_iconst (v := 0) hx hb dX11_told_21 (by decide +kernel) ?_
      refine lv_goto (tgt := 52) hx hb dX11_told_22 (by decide) ?_
      exact (hG _ _ _ _ _).mp (J52 0 0 H locs ls (hP.sub [0, 1, 2, 3] rfl) (hD.sub [0, 1, 2, 3] (by decide) rfl) hS (lv_sub hl [0] rfl) hf)
abbrev wX11_trace (h0 h1 : Nat) (kc1 : ClassId) (V0 : Nat → Value) (v0_thrown : Int32) (v0_traceLong : Int32) (c1 : Nat → Int32) : va_W := [(h0, .inr (11, [.int v0_thrown, V0 1, V0 2, V0 3, V0 4, V0 5, V0 6, V0 7, V0 8, V0 9, V0 10, V0 11, V0 12, V0 13, V0 14, V0 15, V0 16, V0 17, V0 18, V0 19, V0 20, V0 21, V0 22, V0 23, V0 24, V0 25, V0 26, V0 27, V0 28, V0 29, V0 30, V0 31, V0 32, V0 33, V0 34, V0 35, V0 36, V0 37, V0 38, V0 39, V0 40, V0 41, V0 42, V0 43, V0 44, V0 45, V0 46, V0 47, V0 48, V0 49, V0 50, V0 51, V0 52, V0 53, V0 54, V0 55, V0 56, V0 57, V0 58, V0 59, V0 60, V0 61, V0 62, V0 63, V0 64, .int v0_traceLong, .ref h1, V0 67, V0 68, V0 69, V0 70])), (h1, .inl (kc1, 10000, .inl c1))]
set_option maxHeartbeats 4000000 in
set_option maxRecDepth 100000 in
theorem mX11_trace (l : Launch) (dC : Nat → ClassId) (dI : Nat → Nat → Nat) (h0 h1 : Nat) (kc1 : ClassId) (sz : Nat) (base : Nat × Nat × Nat) (a0 : Int32) (a1 : Int32) (v0_thrown : Int32) (v0_traceLong : Int32) (c1 : Nat → Int32) (V0 : Nat → Value) (o : Int32 × Int32) (hf : fX11_trace a0 a1 v0_thrown v0_traceLong c1 = some o) : Met l yX11_trace (.code yX11_trace cX11_trace 3 (some .int) :: wsL_law) ({ frames := 1, cells := 0, slots := 0, locals := 22 }) (cPre (dC, dI) vwCl [.ref h0, .int a0, .int a1] sz base (wX11_trace h0 h1 kc1 V0 v0_thrown v0_traceLong c1) [(kc1, .int)]) (va_Qi (fun r u => r = o.1 ∧ u = o.2) (fun (u : Int32) t => cPost (dC, dI) vwCl (va_A (wX11_trace h0 h1 kc1 V0 v0_thrown v0_traceLong c1) sz) (wX11_trace h0 h1 kc1 V0 u v0_traceLong c1) [(kc1, .int)] t) (va_A (wX11_trace h0 h1 kc1 V0 v0_thrown v0_traceLong c1) sz)) 0 0 (va_A (wX11_trace h0 h1 kc1 V0 v0_thrown v0_traceLong c1) sz) := by
  refine Met.ofW (cc := cX11_trace) (maxL := 3) (ret := (some .int)) (by decide) rfl ?_
  intro p e s m args below meth c s₁ B hml hv
  obtain ⟨rfl, hsz, hP, hK, hD0, hE⟩ := hv
  have hx := B.exec
  have hb := B.bytes
  have hr := B.returns
  have hts : ∀ w ∈ wsL_law, _ := fun w h => atoms_spec (ws := .code yX11_trace cX11_trace 3 (some .int) :: wsL_law) B.pre w (List.mem_cons_of_mem _ h)
  have hown : s.vm.findClass RX11 = some m.cls := findClass_of_methodNamed B.named
  have hlocks := B.notSynchronized
  have w0_ := hts _ q146
  have w1_ := hts _ q1107
  have w2_ := hts _ q122
  subst hsz
  have hD := hD0.self (sz := s.heap.size)
  generalize hAe : va_A (wX11_trace h0 h1 kc1 V0 v0_thrown v0_traceLong c1) s.heap.size = A at hD ⊢
  have hA : ∀ q : Nat, s.heap.size ≤ q → A q := fun q h => by rw [← hAe]; exact Or.inr h
  have hAB : ∀ q : Nat, A q → base.1 ≤ q := fun q h => by rw [← hAe] at h; exact h.elim (fun ⟨k, e, hk⟩ => hD0.2 k _ hk) (fun hk => Nat.le_trans hE.1 hk)
  have hS : va_S A s.heap s.heap [] := va_S.rf
  have hl := lv_entry ([.ref h0, .int a0, .int a1]) (n := 3) (Nat.le_of_ble_eq_true rfl)
  rw [lg_entry_eq]
  generalize (lg_sl ([.ref h0, .int a0, .int a1]) ++ List.replicate (3 - (lg_sl ([.ref h0, .int a0, .int a1])).length) Slot.unset).toArray = ls at hl ⊢
  have hl : lv_has ls 3 [(0, .ref h0), (1, .int a0), (2, .int a1)] := hl
  have hP : va_P (dC, dI) vwCl (wX11_trace h0 h1 kc1 V0 v0_thrown v0_traceLong c1) s.heap := hP
  refine gl_intro (fun G hG => ?_)
  have J45 : ∀ (z0 : Int32) (v0_thrown : Int32) (H : Heap) (locs : List Loc) (ls : Array Slot), va_P (dC, dI) vwCl (wX11_trace h0 h1 kc1 V0 v0_thrown v0_traceLong c1) H → va_D A (wX11_trace h0 h1 kc1 V0 v0_thrown v0_traceLong c1) → va_S A s.heap H locs → lv_has ls 3 [(0, .ref h0)] → fX11_trace_p45 v0_traceLong c1  z0 v0_thrown = some o → G 0 0 H locs (F0 m 45 ls [.int z0]) := by
    intro  z0 v0_thrown H locs ls hP hD hS hl hf
    refine (hG _ _ _ _ _).mpr ?_
    unfold fX11_trace_p45 at hf
    have hf1 := Option.some.inj hf
    subst hf1
    have hP9 := hP.sub (ws' := (wX11_trace h0 h1 kc1 V0 v0_thrown v0_traceLong c1)) [0, 1] rfl
    have hD9 := hD.sub (ws' := (wX11_trace h0 h1 kc1 V0 v0_thrown v0_traceLong c1)) [0, 1] (by decide) rfl
    exact W.iret (v := z0) hx hb hr (fun t ht hW => ⟨⟨z0, v0_thrown, rfl, ⟨rfl, rfl⟩, by rw [ht]; exact hP9, va_K.moved hW.alike hK, hD9⟩, hS.F ht⟩) hS.2.2 dX11_trace_45
  refine (hG _ _ _ _ _).mpr ?_
  obtain ⟨H, hH⟩ : ∃ H, H = s.heap := ⟨_, rfl⟩
  have hS : va_S A s.heap H [] := by rw [hH]; exact hS
  rw [← hH] at hP ⊢
  generalize ([] : List Loc) = locs at hS ⊢
  unfold fX11_trace at hf
  refine lv_aload_n hx hb dX11_trace_0 rfl (lv_at hl 0 rfl) ?_
  refine lv_iconst (v := 0) hx hb dX11_trace_1 (by decide +kernel) ?_
  refine va_put (D := (dC, dI)) (ci := 11) (v := .int 0) (ty := .int) (C := RX11) (T := TX11) (N := 71) hx hb hts inlX11 tyX11 tyX11_ok nmX11 hown hK hP hD hS 0 rfl rfl 0 (by decide) w0_ (fun _ h9 => h9) rfl (by decide +kernel) rfl rfl (Nat.le_of_ble_eq_true rfl) dX11_trace_2 (fun H locs hP hD hS => ?_)
  have hP : va_P (dC, dI) vwCl (wX11_trace h0 h1 kc1 V0 0 v0_traceLong c1) H := hP
  have hD : va_D A (wX11_trace h0 h1 kc1 V0 0 v0_traceLong c1) := hD
  refine lv_iload_n hx hb dX11_trace_5 rfl (lv_at hl 2 rfl) ?_
  refine lv_iconst (v := 0) hx hb dX11_trace_6 (by decide +kernel) ?_
  refine lv_iconst (v := 4) hx hb dX11_trace_7 (by decide +kernel) ?_
  obtain ⟨o1, e1, hf⟩ := ob_some hf
  refine kSi (As := [.int a1, .int 0, .int 4]) (rest := []) ⟨hx, hb, hml, hown, hts⟩ (mX11_in l dC dI H.size base a1 0 4 o1 e1) (va_cwS 3 hts (gTS q148 q149 q5 q150) rfl rfl rfl (by decide +kernel) ⟨Nat.le_of_ble_eq_true rfl, Nat.le_of_ble_eq_true rfl⟩) hK hP hD hS hA hE hAB [] [0, 1] [] (wr := (wX11_trace h0 h1 kc1 V0 0 v0_traceLong c1)) rfl rfl (by decide) (by decide) (by decide) rfl rfl hl.1 rfl (Nat.le_of_ble_eq_true rfl) dX11_trace_8 ⟨Nat.zero_le _, Nat.zero_le _⟩ (fun r1 u1 H locs hw1 hP hD hS => ?_)
  obtain ⟨hw11, hw12⟩ := hw1
  subst hw11 hw12
  have hP : va_P (dC, dI) vwCl (wX11_trace h0 h1 kc1 V0 0 v0_traceLong c1) H := hP.sub [0, 1] rfl
  have hD : va_D A (wX11_trace h0 h1 kc1 V0 0 v0_traceLong c1) := hD.sub [0, 1] (by decide) rfl
  refine lv_if_ne (tgt := 17) hx hb dX11_trace_11 (by decide) (fun cq2 => ?_) (fun cq2 => ?_)
  · replace hf := if_no hf cq2
    refine lv_iload_n hx hb dX11_trace_17 rfl (lv_at hl 1 rfl) ?_
    refine lv_iconst (v := 0) hx hb dX11_trace_18 (by decide +kernel) ?_
    refine lv_aload_n hx hb dX11_trace_19 rfl (lv_at hl 0 rfl) ?_
    refine va_get (D := (dC, dI)) (ci := 11) (v := .int v0_traceLong) (C := RX11) (T := TX11) (N := 71) hx hb hts inlX11 hown hK hP 0 rfl rfl 65 (by decide) w1_ (fun _ h9 => h9) rfl dX11_trace_20 ?_
    refine lv_iconst (v := 1) hx hb dX11_trace_23 (by decide +kernel) ?_
    refine lv_isub hx hb dX11_trace_24 ?_
    refine lv_topi (fun x3 e3 => ?_)
    replace hf := nm_at hf e3
    obtain ⟨o4, e4, hf⟩ := ob_some hf
    refine kSi (As := [.int a0, .int 0, .int x3]) (rest := []) ⟨hx, hb, hml, hown, hts⟩ (mX11_in l dC dI H.size base a0 0 x3 o4 e4) (va_cwS 3 hts (gTS q148 q149 q5 q150) rfl rfl rfl (by decide +kernel) ⟨Nat.le_of_ble_eq_true rfl, Nat.le_of_ble_eq_true rfl⟩) hK hP hD hS hA hE hAB [] [0, 1] [] (wr := (wX11_trace h0 h1 kc1 V0 0 v0_traceLong c1)) rfl rfl (by decide) (by decide) (by decide) rfl rfl hl.1 rfl (Nat.le_of_ble_eq_true rfl) dX11_trace_25 ⟨Nat.zero_le _, Nat.zero_le _⟩ (fun r4 u4 H locs hw4 hP hD hS => ?_)
    obtain ⟨hw41, hw42⟩ := hw4
    subst hw41 hw42
    have hP : va_P (dC, dI) vwCl (wX11_trace h0 h1 kc1 V0 0 v0_traceLong c1) H := hP.sub [0, 1] rfl
    have hD : va_D A (wX11_trace h0 h1 kc1 V0 0 v0_traceLong c1) := hD.sub [0, 1] (by decide) rfl
    refine lv_if_eq (tgt := 44) hx hb dX11_trace_28 (by decide) (fun cq5 => ?_) (fun cq5 => ?_)
    · replace hf := if_at hf cq5
      refine lv_iconst (v := (-1)) hx hb dX11_trace_44 (by decide +kernel) ?_
      exact (hG _ _ _ _ _).mp (J45 (-1) 0 H locs ls (hP.sub [0, 1] rfl) (hD.sub [0, 1] (by decide) rfl) hS (lv_sub hl [0] rfl) hf)
    · replace hf := if_no hf cq5
      refine lv_aload_n hx hb dX11_trace_31 rfl (lv_at hl 0 rfl) ?_
      refine va_get (D := (dC, dI)) (ci := 11) (v := .ref h1) (C := RX11) (T := TX11) (N := 71) hx hb hts inlX11 hown hK hP 0 rfl rfl 66 (by decide) w2_ (fun _ h9 => h9) rfl dX11_trace_32 ?_
      refine lv_iconst (v := 5) hx hb dX11_trace_35 (by decide +kernel) ?_
      refine lv_iload_n hx hb dX11_trace_36 rfl (lv_at hl 1 rfl) ?_
      refine lv_imul hx hb dX11_trace_37 ?_
      refine lv_topi (fun x6 e6 => ?_)
      replace hf := nm_at hf e6
      refine lv_iload_n hx hb dX11_trace_38 rfl (lv_at hl 2 rfl) ?_
      refine lv_iadd hx hb dX11_trace_39 ?_
      refine lv_topi (fun x7 e7 => ?_)
      replace hf := nm_at hf e7
      have b8 := bd_in hf
      replace hf := bd_k hf
      refine va_iald hx hb hK hP 1 0 rfl rfl b8 dX11_trace_40 ?_
      refine lv_topi (fun x9 e9 => ?_)
      replace hf := nm_at hf e9
      refine lv_goto (tgt := 45) hx hb dX11_trace_41 (by decide) ?_
      exact (hG _ _ _ _ _).mp (J45 x9 0 H locs ls (hP.sub [0, 1] rfl) (hD.sub [0, 1] (by decide) rfl) hS (lv_sub hl [0] rfl) hf)
  · replace hf := if_at hf cq2
    refine lv_bipush (v := (-2)) hx hb dX11_trace_14 (by decide +kernel) ?_
    have hf1 := Option.some.inj hf
    subst hf1
    have hP9 := hP.sub (ws' := (wX11_trace h0 h1 kc1 V0 0 v0_traceLong c1)) [0, 1] rfl
    have hD9 := hD.sub (ws' := (wX11_trace h0 h1 kc1 V0 0 v0_traceLong c1)) [0, 1] (by decide) rfl
    exact W.iret (v := (-2)) hx hb hr (fun t ht hW => ⟨⟨(-2), 0, rfl, ⟨rfl, rfl⟩, by rw [ht]; exact hP9, va_K.moved hW.alike hK, hD9⟩, hS.F ht⟩) hS.2.2 dX11_trace_16
abbrev wX11_type (h0 h1 : Nat) (kc1 : ClassId) (V0 : Nat → Value) (v0_thrown : Int32) (v0_textSize : Int32) (c1 : Nat → Int32) : va_W := [(h0, .inr (11, [.int v0_thrown, V0 1, V0 2, V0 3, V0 4, V0 5, V0 6, V0 7, V0 8, V0 9, V0 10, V0 11, V0 12, V0 13, V0 14, V0 15, V0 16, V0 17, V0 18, .int v0_textSize, .ref h1, V0 21, V0 22, V0 23, V0 24, V0 25, V0 26, V0 27, V0 28, V0 29, V0 30, V0 31, V0 32, V0 33, V0 34, V0 35, V0 36, V0 37, V0 38, V0 39, V0 40, V0 41, V0 42, V0 43, V0 44, V0 45, V0 46, V0 47, V0 48, V0 49, V0 50, V0 51, V0 52, V0 53, V0 54, V0 55, V0 56, V0 57, V0 58, V0 59, V0 60, V0 61, V0 62, V0 63, V0 64, V0 65, V0 66, V0 67, V0 68, V0 69, V0 70])), (h1, .inl (kc1, 600, .inl c1))]
set_option maxHeartbeats 4000000 in
set_option maxRecDepth 100000 in
theorem mX11_type (l : Launch) (dC : Nat → ClassId) (dI : Nat → Nat → Nat) (h0 h1 : Nat) (kc1 : ClassId) (sz : Nat) (base : Nat × Nat × Nat) (a0 : Int64) (a1 : Int32) (v0_thrown : Int32) (v0_textSize : Int32) (c1 : Nat → Int32) (V0 : Nat → Value) (o : Int32 × Int32 × Int32 × (Nat → Int32)) (hf : fX11_type a0 a1 v0_thrown v0_textSize c1 = some o) : Met l yX11_type (.code yX11_type cX11_type 5 (some .int) :: wsL_law) ({ frames := 1, cells := 0, slots := 0, locals := 22 }) (cPre (dC, dI) vwCl [.ref h0, .long a0, .int a1] sz base (wX11_type h0 h1 kc1 V0 v0_thrown v0_textSize c1) [(kc1, .int)]) (va_Qi (fun r u => r = o.1 ∧ u = o.2) (fun (u : Int32 × Int32 × (Nat → Int32)) t => cPost (dC, dI) vwCl (va_A (wX11_type h0 h1 kc1 V0 v0_thrown v0_textSize c1) sz) (wX11_type h0 h1 kc1 V0 u.1 u.2.1 u.2.2) [(kc1, .int)] t) (va_A (wX11_type h0 h1 kc1 V0 v0_thrown v0_textSize c1) sz)) 0 0 (va_A (wX11_type h0 h1 kc1 V0 v0_thrown v0_textSize c1) sz) := by
  refine Met.ofW (cc := cX11_type) (maxL := 5) (ret := (some .int)) (by decide) rfl ?_
  intro p e s m args below meth c s₁ B hml hv
  obtain ⟨rfl, hsz, hP, hK, hD0, hE⟩ := hv
  have hx := B.exec
  have hb := B.bytes
  have hr := B.returns
  have hts : ∀ w ∈ wsL_law, _ := fun w h => atoms_spec (ws := .code yX11_type cX11_type 5 (some .int) :: wsL_law) B.pre w (List.mem_cons_of_mem _ h)
  have hown : s.vm.findClass RX11 = some m.cls := findClass_of_methodNamed B.named
  have hlocks := B.notSynchronized
  have w0_ := hts _ q530
  have w1_ := hts _ q94
  have w2_ := hts _ q531
  have w3_ := hts _ q146
  subst hsz
  have hD := hD0.self (sz := s.heap.size)
  generalize hAe : va_A (wX11_type h0 h1 kc1 V0 v0_thrown v0_textSize c1) s.heap.size = A at hD ⊢
  have hA : ∀ q : Nat, s.heap.size ≤ q → A q := fun q h => by rw [← hAe]; exact Or.inr h
  have hAB : ∀ q : Nat, A q → base.1 ≤ q := fun q h => by rw [← hAe] at h; exact h.elim (fun ⟨k, e, hk⟩ => hD0.2 k _ hk) (fun hk => Nat.le_trans hE.1 hk)
  have hS : va_S A s.heap s.heap [] := va_S.rf
  have hl := lv_entry ([.ref h0, .long a0, .int a1]) (n := 5) (Nat.le_of_ble_eq_true rfl)
  rw [lg_entry_eq]
  generalize (lg_sl ([.ref h0, .long a0, .int a1]) ++ List.replicate (5 - (lg_sl ([.ref h0, .long a0, .int a1])).length) Slot.unset).toArray = ls at hl ⊢
  have hl : lv_has ls 5 [(0, .ref h0), (1, .long a0), (3, .int a1)] := hl
  have hP : va_P (dC, dI) vwCl (wX11_type h0 h1 kc1 V0 v0_thrown v0_textSize c1) s.heap := hP
  refine gl_intro (fun G hG => ?_)
  have B36 : ∀ (k36 : Int64 → Int32 → Int32 → Int32 → Int32 → (Nat → Int32) → Option (Int32 × Int32 × Int32 × (Nat → Int32))) (hk36 : ∀ (y1 : Int64) (y3 : Int32) (y4 : Int32) (v0_thrown : Int32) (v0_textSize : Int32) (c1 : (Nat → Int32)) (H : Heap) (locs : List Loc) (ls : Array Slot), va_P (dC, dI) vwCl (wX11_type h0 h1 kc1 V0 v0_thrown v0_textSize c1) H → va_D A (wX11_type h0 h1 kc1 V0 v0_thrown v0_textSize c1) → va_S A s.heap H locs → lv_has ls 5 [(0, .ref h0), (1, .long y1), (3, .int y3), (4, .int y4)] → k36 y1 y3 y4 v0_thrown v0_textSize c1 = some o → G 0 0 H locs (F0 m 36 ls [])), ∀ (y1 : Int64) (y3 : Int32) (y4 : Int32) (v0_thrown : Int32) (v0_textSize : Int32) (c1 : (Nat → Int32)) (H : Heap) (locs : List Loc) (ls : Array Slot), va_P (dC, dI) vwCl (wX11_type h0 h1 kc1 V0 v0_thrown v0_textSize c1) H → va_D A (wX11_type h0 h1 kc1 V0 v0_thrown v0_textSize c1) → va_S A s.heap H locs → lv_has ls 5 [(0, .ref h0), (1, .long y1), (3, .int y3), (4, .int y4)] → fX11_type_b36   k36 y1 y3 y4 v0_thrown v0_textSize c1 = some o → G 0 0 H locs (F0 m 36 ls []) := by
    intro  k36 hk36 y1 y3 y4 v0_thrown v0_textSize c1 H locs ls hP hD hS hl hf
    refine (hG _ _ _ _ _).mpr ?_
    unfold fX11_type_b36 at hf
    refine lv_iload hx hb dX11_type_36 (lv_at hl 3 rfl) ?_
    refine lv_iload_n hx hb dX11_type_38 rfl (lv_at hl 2 rfl) ?_
    refine lv_icmp_ge (tgt := 79) hx hb dX11_type_39 (by decide) (fun cq1 => ?_) (fun cq1 => ?_)
    · replace hf := if_at hf cq1
      refine lv_aload_n hx hb dX11_type_79 rfl (lv_at hl 0 rfl) ?_
      refine va_get (D := (dC, dI)) (ci := 11) (v := .int v0_textSize) (C := RX11) (T := TX11) (N := 71) hx hb hts inlX11 hown hK hP 0 rfl rfl 19 (by decide) w0_ (fun _ h9 => h9) rfl dX11_type_80 ?_
      have hf1 := Option.some.inj hf
      subst hf1
      have hP9 := hP.sub (ws' := (wX11_type h0 h1 kc1 V0 v0_thrown v0_textSize c1)) [0, 1] rfl
      have hD9 := hD.sub (ws' := (wX11_type h0 h1 kc1 V0 v0_thrown v0_textSize c1)) [0, 1] (by decide) rfl
      exact W.iret (v := v0_textSize) hx hb hr (fun t ht hW => ⟨⟨v0_textSize, (v0_thrown, v0_textSize, c1), rfl, ⟨rfl, rfl⟩, by rw [ht]; exact hP9, va_K.moved hW.alike hK, hD9⟩, hS.F ht⟩) hS.2.2 dX11_type_83
    · replace hf := if_no hf cq1
      refine lv_aload_n hx hb dX11_type_42 rfl (lv_at hl 0 rfl) ?_
      refine va_get (D := (dC, dI)) (ci := 11) (v := .ref h1) (C := RX11) (T := TX11) (N := 71) hx hb hts inlX11 hown hK hP 0 rfl rfl 20 (by decide) w1_ (fun _ h9 => h9) rfl dX11_type_43 ?_
      refine lv_aload_n hx hb dX11_type_46 rfl (lv_at hl 0 rfl) ?_
      refine va_get (D := (dC, dI)) (ci := 11) (v := .int v0_textSize) (C := RX11) (T := TX11) (N := 71) hx hb hts inlX11 hown hK hP 0 rfl rfl 19 (by decide) w0_ (fun _ h9 => h9) rfl dX11_type_47 ?_
      refine lv_lload_n hx hb dX11_type_50 rfl (lv_at hl 1 rfl) ?_
      refine lv_bipush (v := 8) hx hb dX11_type_51 (by decide +kernel) ?_
      refine lv_iload hx hb dX11_type_53 (lv_at hl 3 rfl) ?_
      refine lv_imul hx hb dX11_type_55 ?_
      refine lv_topi (fun x2 e2 => ?_)
      replace hf := nm_at hf e2
      refine lv_lshr hx hb dX11_type_56 rfl ?_
      refine lv_topl (fun x3 e3 => ?_)
      replace hf := nm_at hf e3
      refine lv_ldc2 (v := 255) hx hb hown w2_ dX11_type_57 ?_
      refine lv_land hx hb dX11_type_60 ?_
      refine lv_topl (fun x4 e4 => ?_)
      replace hf := nm_at hf e4
      refine lv_l2i hx hb dX11_type_61 rfl ?_
      refine lv_topi (fun x5 e5 => ?_)
      replace hf := nm_at hf e5
      have b6 := bd_in hf
      replace hf := bd_k hf
      obtain ⟨c6x, e6⟩ : ∃ y, y = upd c1 v0_textSize.toNatClampNeg x5 := ⟨_, rfl⟩
      replace hf := nm_at hf e6
      refine va_iast hx hb hK hP hD hS 1 0 rfl rfl b6 dX11_type_62 (fun H locs hP hD hS => ?_)
      have hP : va_P (dC, dI) vwCl (wX11_type h0 h1 kc1 V0 v0_thrown v0_textSize c6x) H := by rw [e6]; exact hP
      have hD : va_D A (wX11_type h0 h1 kc1 V0 v0_thrown v0_textSize c6x) := by rw [e6]; exact hD
      refine lv_aload_n hx hb dX11_type_63 rfl (lv_at hl 0 rfl) ?_
      refine lv_dup hx hb dX11_type_64 rfl ?_
      refine va_get (D := (dC, dI)) (ci := 11) (v := .int v0_textSize) (C := RX11) (T := TX11) (N := 71) hx hb hts inlX11 hown hK hP 0 rfl rfl 19 (by decide) w0_ (fun _ h9 => h9) rfl dX11_type_65 ?_
      refine lv_iconst (v := 1) hx hb dX11_type_68 (by decide +kernel) ?_
      refine lv_iadd hx hb dX11_type_69 ?_
      refine lv_topi (fun x7 e7 => ?_)
      replace hf := nm_at hf e7
      refine va_put (D := (dC, dI)) (ci := 11) (v := .int x7) (ty := .int) (C := RX11) (T := TX11) (N := 71) hx hb hts inlX11 tyX11 tyX11_ok nmX11 hown hK hP hD hS 0 rfl rfl 19 (by decide) w0_ (fun _ h9 => h9) rfl (by decide +kernel) rfl rfl (Nat.le_of_ble_eq_true rfl) dX11_type_70 (fun H locs hP hD hS => ?_)
      have hP : va_P (dC, dI) vwCl (wX11_type h0 h1 kc1 V0 v0_thrown x7 c6x) H := hP
      have hD : va_D A (wX11_type h0 h1 kc1 V0 v0_thrown x7 c6x) := hD
      obtain ⟨x8, e8⟩ : ∃ y : Int32, y = y4 + 1 := ⟨_, rfl⟩
      replace hf := nm_at hf e8
      refine lv_iinc (v := x8) (lv' := [(4, .int x8), (0, .ref h0), (1, .long y1), (3, .int y3)]) hx hb dX11_type_73 hl (k := 3) rfl (by rw [e8]; rfl) (by decide) rfl (fun ls hl => ?_)
      refine lv_goto (tgt := 36) hx hb dX11_type_76 (by decide) ?_
      exact (hG _ _ _ _ _).mp (hk36 y1 y3 x8 v0_thrown x7 c6x H locs ls (hP.sub [0, 1] rfl) (hD.sub [0, 1] (by decide) rfl) hS (lv_sub hl [1, 2, 3, 0] rfl) hf)
  have L36 : ∀ (n : Nat), ∀ (y1 : Int64) (y3 : Int32) (y4 : Int32) (v0_thrown : Int32) (v0_textSize : Int32) (c1 : (Nat → Int32)) (H : Heap) (locs : List Loc) (ls : Array Slot), va_P (dC, dI) vwCl (wX11_type h0 h1 kc1 V0 v0_thrown v0_textSize c1) H → va_D A (wX11_type h0 h1 kc1 V0 v0_thrown v0_textSize c1) → va_S A s.heap H locs → lv_has ls 5 [(0, .ref h0), (1, .long y1), (3, .int y3), (4, .int y4)] → fX11_type_l36   n y1 y3 y4 v0_thrown v0_textSize c1 = some o → G 0 0 H locs (F0 m 36 ls []) := by
    intro  n
    induction n with
    | zero => intro y1 y3 y4 v0_thrown v0_textSize c1 H locs ls _ _ _ _ hf; cases hf
    | succ n ih => exact B36  _ ih
  refine (hG _ _ _ _ _).mpr ?_
  obtain ⟨H, hH⟩ : ∃ H, H = s.heap := ⟨_, rfl⟩
  have hS : va_S A s.heap H [] := by rw [hH]; exact hS
  rw [← hH] at hP ⊢
  generalize ([] : List Loc) = locs at hS ⊢
  unfold fX11_type at hf
  refine lv_aload_n hx hb dX11_type_0 rfl (lv_at hl 0 rfl) ?_
  refine lv_iconst (v := 0) hx hb dX11_type_1 (by decide +kernel) ?_
  refine va_put (D := (dC, dI)) (ci := 11) (v := .int 0) (ty := .int) (C := RX11) (T := TX11) (N := 71) hx hb hts inlX11 tyX11 tyX11_ok nmX11 hown hK hP hD hS 0 rfl rfl 0 (by decide) w3_ (fun _ h9 => h9) rfl (by decide +kernel) rfl rfl (Nat.le_of_ble_eq_true rfl) dX11_type_2 (fun H locs hP hD hS => ?_)
  have hP : va_P (dC, dI) vwCl (wX11_type h0 h1 kc1 V0 0 v0_textSize c1) H := hP
  have hD : va_D A (wX11_type h0 h1 kc1 V0 0 v0_textSize c1) := hD
  refine lv_iload_n hx hb dX11_type_5 rfl (lv_at hl 2 rfl) ?_
  refine lv_iconst (v := 1) hx hb dX11_type_6 (by decide +kernel) ?_
  refine lv_bipush (v := 8) hx hb dX11_type_7 (by decide +kernel) ?_
  obtain ⟨o9, e9, hf⟩ := ob_some hf
  refine kSi (As := [.int a1, .int 1, .int 8]) (rest := []) ⟨hx, hb, hml, hown, hts⟩ (mX11_in l dC dI H.size base a1 1 8 o9 e9) (va_cwS 3 hts (gTS q148 q149 q5 q150) rfl rfl rfl (by decide +kernel) ⟨Nat.le_of_ble_eq_true rfl, Nat.le_of_ble_eq_true rfl⟩) hK hP hD hS hA hE hAB [] [0, 1] [] (wr := (wX11_type h0 h1 kc1 V0 0 v0_textSize c1)) rfl rfl (by decide) (by decide) (by decide) rfl rfl hl.1 rfl (Nat.le_of_ble_eq_true rfl) dX11_type_9 ⟨Nat.zero_le _, Nat.zero_le _⟩ (fun r9 u9 H locs hw9 hP hD hS => ?_)
  obtain ⟨hw91, hw92⟩ := hw9
  subst hw91 hw92
  have hP : va_P (dC, dI) vwCl (wX11_type h0 h1 kc1 V0 0 v0_textSize c1) H := hP.sub [0, 1] rfl
  have hD : va_D A (wX11_type h0 h1 kc1 V0 0 v0_textSize c1) := hD.sub [0, 1] (by decide) rfl
  refine lv_if_ne (tgt := 18) hx hb dX11_type_12 (by decide) (fun cq10 => ?_) (fun cq10 => ?_)
  · replace hf := if_no hf cq10
    refine lv_aload_n hx hb dX11_type_18 rfl (lv_at hl 0 rfl) ?_
    refine va_get (D := (dC, dI)) (ci := 11) (v := .int v0_textSize) (C := RX11) (T := TX11) (N := 71) hx hb hts inlX11 hown hK hP 0 rfl rfl 19 (by decide) w0_ (fun _ h9 => h9) rfl dX11_type_19 ?_
    refine lv_iload_n hx hb dX11_type_22 rfl (lv_at hl 2 rfl) ?_
    refine lv_iadd hx hb dX11_type_23 ?_
    refine lv_topi (fun x11 e11 => ?_)
    replace hf := nm_at hf e11
    refine lv_sipush (v := 600) hx hb dX11_type_24 (by decide +kernel) ?_
    refine lv_icmp_le (tgt := 33) hx hb dX11_type_27 (by decide) (fun cq12 => ?_) (fun cq12 => ?_)
    · replace hf := if_at hf cq12
      refine lv_iconst (v := 0) hx hb dX11_type_33 (by decide +kernel) ?_
      refine lv_istore (lv' := [(4, .int 0), (0, .ref h0), (1, .long a0), (3, .int a1)]) hx hb dX11_type_34 hl (by decide) rfl (fun ls hl => ?_)
      exact (hG _ _ _ _ _).mp (L36 FU a0 a1 0 0 v0_textSize c1 H locs ls (hP.sub [0, 1] rfl) (hD.sub [0, 1] (by decide) rfl) hS (lv_sub hl [1, 2, 3, 0] rfl) hf)
    · replace hf := if_no hf cq12
      refine lv_bipush (v := (-3)) hx hb dX11_type_30 (by decide +kernel) ?_
      have hf1 := Option.some.inj hf
      subst hf1
      have hP9 := hP.sub (ws' := (wX11_type h0 h1 kc1 V0 0 v0_textSize c1)) [0, 1] rfl
      have hD9 := hD.sub (ws' := (wX11_type h0 h1 kc1 V0 0 v0_textSize c1)) [0, 1] (by decide) rfl
      exact W.iret (v := (-3)) hx hb hr (fun t ht hW => ⟨⟨(-3), (0, v0_textSize, c1), rfl, ⟨rfl, rfl⟩, by rw [ht]; exact hP9, va_K.moved hW.alike hK, hD9⟩, hS.F ht⟩) hS.2.2 dX11_type_32
  · replace hf := if_at hf cq10
    refine lv_bipush (v := (-2)) hx hb dX11_type_15 (by decide +kernel) ?_
    have hf1 := Option.some.inj hf
    subst hf1
    have hP9 := hP.sub (ws' := (wX11_type h0 h1 kc1 V0 0 v0_textSize c1)) [0, 1] rfl
    have hD9 := hD.sub (ws' := (wX11_type h0 h1 kc1 V0 0 v0_textSize c1)) [0, 1] (by decide) rfl
    exact W.iret (v := (-2)) hx hb hr (fun t ht hW => ⟨⟨(-2), (0, v0_textSize, c1), rfl, ⟨rfl, rfl⟩, by rw [ht]; exact hP9, va_K.moved hW.alike hK, hD9⟩, hS.F ht⟩) hS.2.2 dX11_type_17
abbrev wX11_way (h0 h1 h2 h3 h4 h5 h6 h7 h8 : Nat) (kc1 kc2 kc3 kc4 kc5 kc6 kc7 kc8 : ClassId) (V0 : Nat → Value) (v0_thrown : Int32) (v0_rules : Int32) (v0_size : Int32) (v0_known : Int32) (v0_wayState : Int32) (v0_wayLong : Int32) (c1 : Nat → Int32) (c2 : Nat → Int32) (c3 : Nat → Int32) (c4 : Nat → Int32) (c5 : Nat → Int32) (c6 : Nat → Int32) (c7 : Nat → Int32) (c8 : Nat → Int32) : va_W := [(h0, .inr (11, [.int v0_thrown, .int v0_rules, .ref h3, V0 3, .ref h1, .ref h4, .int v0_size, .ref h6, .int v0_known, .ref h2, .int v0_wayState, .int v0_wayLong, .ref h8, .ref h5, .ref h7, V0 15, V0 16, V0 17, V0 18, V0 19, V0 20, V0 21, V0 22, V0 23, V0 24, V0 25, V0 26, V0 27, V0 28, V0 29, V0 30, V0 31, V0 32, V0 33, V0 34, V0 35, V0 36, V0 37, V0 38, V0 39, V0 40, V0 41, V0 42, V0 43, V0 44, V0 45, V0 46, V0 47, V0 48, V0 49, V0 50, V0 51, V0 52, V0 53, V0 54, V0 55, V0 56, V0 57, V0 58, V0 59, V0 60, V0 61, V0 62, V0 63, V0 64, V0 65, V0 66, V0 67, V0 68, V0 69, V0 70])), (h1, .inl (kc1, 3072, .inl c1)), (h2, .inl (kc2, 3072, .inl c2)), (h3, .inl (kc3, 288, .inl c3)), (h4, .inl (kc4, 16, .inl c4)), (h5, .inl (kc5, 64128, .inl c5)), (h6, .inl (kc6, 30, .inl c6)), (h7, .inl (kc7, 4008, .inl c7)), (h8, .inl (kc8, 2000, .inl c8))]
set_option maxHeartbeats 4000000 in
set_option maxRecDepth 100000 in
theorem mX11_way (l : Launch) (dC : Nat → ClassId) (dI : Nat → Nat → Nat) (h0 h1 h2 h3 h4 h5 h6 h7 h8 : Nat) (kc1 kc2 kc3 kc4 kc5 kc6 kc7 kc8 : ClassId) (sz : Nat) (base : Nat × Nat × Nat) (a0 : Int32) (a1 : Int32) (v0_thrown : Int32) (v0_rules : Int32) (v0_size : Int32) (v0_known : Int32) (v0_wayState : Int32) (v0_wayLong : Int32) (c1 : Nat → Int32) (c2 : Nat → Int32) (c3 : Nat → Int32) (c4 : Nat → Int32) (c5 : Nat → Int32) (c6 : Nat → Int32) (c7 : Nat → Int32) (c8 : Nat → Int32) (V0 : Nat → Value) (o : Int32 × Int32 × Int32 × Int32 × Int32 × (Nat → Int32) × (Nat → Int32) × (Nat → Int32) × (Nat → Int32)) (hf : fX11_way a0 a1 v0_thrown v0_rules v0_size v0_known v0_wayState v0_wayLong c1 c2 c3 c4 c5 c6 c7 c8 = some o) : Met l yX11_way (.code yX11_way cX11_way 3 (some .int) :: wsL_law) ({ frames := 5, cells := 0, slots := 0, locals := 126 }) (cPre (dC, dI) vwCl [.ref h0, .int a0, .int a1] sz base (wX11_way h0 h1 h2 h3 h4 h5 h6 h7 h8 kc1 kc2 kc3 kc4 kc5 kc6 kc7 kc8 V0 v0_thrown v0_rules v0_size v0_known v0_wayState v0_wayLong c1 c2 c3 c4 c5 c6 c7 c8) [(kc1, .boolean), (kc2, .int), (kc3, .int), (kc4, .boolean), (kc5, .int), (kc6, .int), (kc7, .int), (kc8, .int)]) (va_Qi (fun r u => r = o.1 ∧ u = o.2) (fun (u : Int32 × Int32 × Int32 × Int32 × (Nat → Int32) × (Nat → Int32) × (Nat → Int32) × (Nat → Int32)) t => cPost (dC, dI) vwCl (va_A (wX11_way h0 h1 h2 h3 h4 h5 h6 h7 h8 kc1 kc2 kc3 kc4 kc5 kc6 kc7 kc8 V0 v0_thrown v0_rules v0_size v0_known v0_wayState v0_wayLong c1 c2 c3 c4 c5 c6 c7 c8) sz) (wX11_way h0 h1 h2 h3 h4 h5 h6 h7 h8 kc1 kc2 kc3 kc4 kc5 kc6 kc7 kc8 V0 u.1 v0_rules v0_size u.2.1 u.2.2.1 u.2.2.2.1 c1 u.2.2.2.2.1 c3 c4 u.2.2.2.2.2.1 c6 u.2.2.2.2.2.2.1 u.2.2.2.2.2.2.2) [(kc1, .boolean), (kc2, .int), (kc3, .int), (kc4, .boolean), (kc5, .int), (kc6, .int), (kc7, .int), (kc8, .int)] t) (va_A (wX11_way h0 h1 h2 h3 h4 h5 h6 h7 h8 kc1 kc2 kc3 kc4 kc5 kc6 kc7 kc8 V0 v0_thrown v0_rules v0_size v0_known v0_wayState v0_wayLong c1 c2 c3 c4 c5 c6 c7 c8) sz)) 0 0 (va_A (wX11_way h0 h1 h2 h3 h4 h5 h6 h7 h8 kc1 kc2 kc3 kc4 kc5 kc6 kc7 kc8 V0 v0_thrown v0_rules v0_size v0_known v0_wayState v0_wayLong c1 c2 c3 c4 c5 c6 c7 c8) sz) := by
  refine Met.ofW (cc := cX11_way) (maxL := 3) (ret := (some .int)) (by decide) rfl ?_
  intro p e s m args below meth c s₁ B hml hv
  obtain ⟨rfl, hsz, hP, hK, hD0, hE⟩ := hv
  have hx := B.exec
  have hb := B.bytes
  have hr := B.returns
  have hts : ∀ w ∈ wsL_law, _ := fun w h => atoms_spec (ws := .code yX11_way cX11_way 3 (some .int) :: wsL_law) B.pre w (List.mem_cons_of_mem _ h)
  have hown : s.vm.findClass RX11 = some m.cls := findClass_of_methodNamed B.named
  have hlocks := B.notSynchronized
  have w0_ := hts _ q448
  have w1_ := hts _ q85
  have w2_ := hts _ q146
  have w3_ := hts _ q84
  subst hsz
  have hD := hD0.self (sz := s.heap.size)
  generalize hAe : va_A (wX11_way h0 h1 h2 h3 h4 h5 h6 h7 h8 kc1 kc2 kc3 kc4 kc5 kc6 kc7 kc8 V0 v0_thrown v0_rules v0_size v0_known v0_wayState v0_wayLong c1 c2 c3 c4 c5 c6 c7 c8) s.heap.size = A at hD ⊢
  have hA : ∀ q : Nat, s.heap.size ≤ q → A q := fun q h => by rw [← hAe]; exact Or.inr h
  have hAB : ∀ q : Nat, A q → base.1 ≤ q := fun q h => by rw [← hAe] at h; exact h.elim (fun ⟨k, e, hk⟩ => hD0.2 k _ hk) (fun hk => Nat.le_trans hE.1 hk)
  have hS : va_S A s.heap s.heap [] := va_S.rf
  have hl := lv_entry ([.ref h0, .int a0, .int a1]) (n := 3) (Nat.le_of_ble_eq_true rfl)
  rw [lg_entry_eq]
  generalize (lg_sl ([.ref h0, .int a0, .int a1]) ++ List.replicate (3 - (lg_sl ([.ref h0, .int a0, .int a1])).length) Slot.unset).toArray = ls at hl ⊢
  have hl : lv_has ls 3 [(0, .ref h0), (1, .int a0), (2, .int a1)] := hl
  have hP : va_P (dC, dI) vwCl (wX11_way h0 h1 h2 h3 h4 h5 h6 h7 h8 kc1 kc2 kc3 kc4 kc5 kc6 kc7 kc8 V0 v0_thrown v0_rules v0_size v0_known v0_wayState v0_wayLong c1 c2 c3 c4 c5 c6 c7 c8) s.heap := hP
  refine gl_intro (fun G hG => ?_)
  have J55 : ∀ (z0 : Int32) (v0_thrown : Int32) (v0_known : Int32) (v0_wayState : Int32) (v0_wayLong : Int32) (c2 : (Nat → Int32)) (c5 : (Nat → Int32)) (c7 : (Nat → Int32)) (c8 : (Nat → Int32)) (H : Heap) (locs : List Loc) (ls : Array Slot), va_P (dC, dI) vwCl (wX11_way h0 h1 h2 h3 h4 h5 h6 h7 h8 kc1 kc2 kc3 kc4 kc5 kc6 kc7 kc8 V0 v0_thrown v0_rules v0_size v0_known v0_wayState v0_wayLong c1 c2 c3 c4 c5 c6 c7 c8) H → va_D A (wX11_way h0 h1 h2 h3 h4 h5 h6 h7 h8 kc1 kc2 kc3 kc4 kc5 kc6 kc7 kc8 V0 v0_thrown v0_rules v0_size v0_known v0_wayState v0_wayLong c1 c2 c3 c4 c5 c6 c7 c8) → va_S A s.heap H locs → lv_has ls 3 [(0, .ref h0)] → fX11_way_p55 v0_rules v0_size c1 c3 c4 c6  z0 v0_thrown v0_known v0_wayState v0_wayLong c2 c5 c7 c8 = some o → G 0 0 H locs (F0 m 55 ls [.int z0]) := by
    intro  z0 v0_thrown v0_known v0_wayState v0_wayLong c2 c5 c7 c8 H locs ls hP hD hS hl hf
    refine (hG _ _ _ _ _).mpr ?_
    unfold fX11_way_p55 at hf
    have hf1 := Option.some.inj hf
    subst hf1
    have hP9 := hP.sub (ws' := (wX11_way h0 h1 h2 h3 h4 h5 h6 h7 h8 kc1 kc2 kc3 kc4 kc5 kc6 kc7 kc8 V0 v0_thrown v0_rules v0_size v0_known v0_wayState v0_wayLong c1 c2 c3 c4 c5 c6 c7 c8)) [0, 1, 2, 3, 4, 5, 6, 7, 8] rfl
    have hD9 := hD.sub (ws' := (wX11_way h0 h1 h2 h3 h4 h5 h6 h7 h8 kc1 kc2 kc3 kc4 kc5 kc6 kc7 kc8 V0 v0_thrown v0_rules v0_size v0_known v0_wayState v0_wayLong c1 c2 c3 c4 c5 c6 c7 c8)) [0, 1, 2, 3, 4, 5, 6, 7, 8] (by decide) rfl
    exact W.iret (v := z0) hx hb hr (fun t ht hW => ⟨⟨z0, (v0_thrown, v0_known, v0_wayState, v0_wayLong, c2, c5, c7, c8), rfl, ⟨rfl, rfl⟩, by rw [ht]; exact hP9, va_K.moved hW.alike hK, hD9⟩, hS.F ht⟩) hS.2.2 dX11_way_55
  have J31 : ∀ (y2 : Int32) (v0_thrown : Int32) (v0_known : Int32) (v0_wayState : Int32) (v0_wayLong : Int32) (c2 : (Nat → Int32)) (c5 : (Nat → Int32)) (c7 : (Nat → Int32)) (c8 : (Nat → Int32)) (H : Heap) (locs : List Loc) (ls : Array Slot), va_P (dC, dI) vwCl (wX11_way h0 h1 h2 h3 h4 h5 h6 h7 h8 kc1 kc2 kc3 kc4 kc5 kc6 kc7 kc8 V0 v0_thrown v0_rules v0_size v0_known v0_wayState v0_wayLong c1 c2 c3 c4 c5 c6 c7 c8) H → va_D A (wX11_way h0 h1 h2 h3 h4 h5 h6 h7 h8 kc1 kc2 kc3 kc4 kc5 kc6 kc7 kc8 V0 v0_thrown v0_rules v0_size v0_known v0_wayState v0_wayLong c1 c2 c3 c4 c5 c6 c7 c8) → va_S A s.heap H locs → lv_has ls 3 [(0, .ref h0), (2, .int y2)] → fX11_way_p31 v0_rules v0_size c1 c3 c4 c6  y2 v0_thrown v0_known v0_wayState v0_wayLong c2 c5 c7 c8 = some o → G 0 0 H locs (F0 m 31 ls []) := by
    intro  y2 v0_thrown v0_known v0_wayState v0_wayLong c2 c5 c7 c8 H locs ls hP hD hS hl hf
    refine (hG _ _ _ _ _).mpr ?_
    unfold fX11_way_p31 at hf
    refine lv_iload_n hx hb dX11_way_31 rfl (lv_at hl 1 rfl) ?_
    refine lv_iconst (v := 0) hx hb dX11_way_32 (by decide +kernel) ?_
    refine lv_aload_n hx hb dX11_way_33 rfl (lv_at hl 0 rfl) ?_
    refine va_get (D := (dC, dI)) (ci := 11) (v := .int v0_wayLong) (C := RX11) (T := TX11) (N := 71) hx hb hts inlX11 hown hK hP 0 rfl rfl 11 (by decide) w0_ (fun _ h9 => h9) rfl dX11_way_34 ?_
    refine lv_iconst (v := 1) hx hb dX11_way_37 (by decide +kernel) ?_
    refine lv_isub hx hb dX11_way_38 ?_
    refine lv_topi (fun x1 e1 => ?_)
    replace hf := nm_at hf e1
    obtain ⟨o2, e2, hf⟩ := ob_some hf
    refine kSi (As := [.int y2, .int 0, .int x1]) (rest := []) ⟨hx, hb, hml, hown, hts⟩ (mX11_in l dC dI H.size base y2 0 x1 o2 e2) (va_cwS 3 hts (gTS q148 q149 q5 q150) rfl rfl rfl (by decide +kernel) ⟨Nat.le_of_ble_eq_true rfl, Nat.le_of_ble_eq_true rfl⟩) hK hP hD hS hA hE hAB [] [0, 1, 2, 3, 4, 5, 6, 7, 8] [] (wr := (wX11_way h0 h1 h2 h3 h4 h5 h6 h7 h8 kc1 kc2 kc3 kc4 kc5 kc6 kc7 kc8 V0 v0_thrown v0_rules v0_size v0_known v0_wayState v0_wayLong c1 c2 c3 c4 c5 c6 c7 c8)) rfl rfl (by decide) (by decide) (by decide) rfl rfl hl.1 rfl (Nat.le_of_ble_eq_true rfl) dX11_way_39 ⟨Nat.zero_le _, Nat.zero_le _⟩ (fun r2 u2 H locs hw2 hP hD hS => ?_)
    obtain ⟨hw21, hw22⟩ := hw2
    subst hw21 hw22
    have hP : va_P (dC, dI) vwCl (wX11_way h0 h1 h2 h3 h4 h5 h6 h7 h8 kc1 kc2 kc3 kc4 kc5 kc6 kc7 kc8 V0 v0_thrown v0_rules v0_size v0_known v0_wayState v0_wayLong c1 c2 c3 c4 c5 c6 c7 c8) H := hP.sub [0, 1, 2, 3, 4, 5, 6, 7, 8] rfl
    have hD : va_D A (wX11_way h0 h1 h2 h3 h4 h5 h6 h7 h8 kc1 kc2 kc3 kc4 kc5 kc6 kc7 kc8 V0 v0_thrown v0_rules v0_size v0_known v0_wayState v0_wayLong c1 c2 c3 c4 c5 c6 c7 c8) := hD.sub [0, 1, 2, 3, 4, 5, 6, 7, 8] (by decide) rfl
    refine lv_if_eq (tgt := 54) hx hb dX11_way_42 (by decide) (fun cq3 => ?_) (fun cq3 => ?_)
    · replace hf := if_at hf cq3
      refine lv_iconst (v := (-1)) hx hb dX11_way_54 (by decide +kernel) ?_
      exact (hG _ _ _ _ _).mp (J55 (-1) v0_thrown v0_known v0_wayState v0_wayLong c2 c5 c7 c8 H locs ls (hP.sub [0, 1, 2, 3, 4, 5, 6, 7, 8] rfl) (hD.sub [0, 1, 2, 3, 4, 5, 6, 7, 8] (by decide) rfl) hS (lv_sub hl [0] rfl) hf)
    · replace hf := if_no hf cq3
      refine lv_aload_n hx hb dX11_way_45 rfl (lv_at hl 0 rfl) ?_
      refine va_get (D := (dC, dI)) (ci := 11) (v := .ref h8) (C := RX11) (T := TX11) (N := 71) hx hb hts inlX11 hown hK hP 0 rfl rfl 12 (by decide) w1_ (fun _ h9 => h9) rfl dX11_way_46 ?_
      refine lv_iload_n hx hb dX11_way_49 rfl (lv_at hl 1 rfl) ?_
      have b4 := bd_in hf
      replace hf := bd_k hf
      refine va_iald hx hb hK hP 8 7 rfl rfl b4 dX11_way_50 ?_
      refine lv_topi (fun x5 e5 => ?_)
      replace hf := nm_at hf e5
      refine lv_goto (tgt := 55) hx hb dX11_way_51 (by decide) ?_
      exact (hG _ _ _ _ _).mp (J55 x5 v0_thrown v0_known v0_wayState v0_wayLong c2 c5 c7 c8 H locs ls (hP.sub [0, 1, 2, 3, 4, 5, 6, 7, 8] rfl) (hD.sub [0, 1, 2, 3, 4, 5, 6, 7, 8] (by decide) rfl) hS (lv_sub hl [0] rfl) hf)
  refine (hG _ _ _ _ _).mpr ?_
  obtain ⟨H, hH⟩ : ∃ H, H = s.heap := ⟨_, rfl⟩
  have hS : va_S A s.heap H [] := by rw [hH]; exact hS
  rw [← hH] at hP ⊢
  generalize ([] : List Loc) = locs at hS ⊢
  unfold fX11_way at hf
  refine lv_aload_n hx hb dX11_way_0 rfl (lv_at hl 0 rfl) ?_
  refine lv_iconst (v := 0) hx hb dX11_way_1 (by decide +kernel) ?_
  refine va_put (D := (dC, dI)) (ci := 11) (v := .int 0) (ty := .int) (C := RX11) (T := TX11) (N := 71) hx hb hts inlX11 tyX11 tyX11_ok nmX11 hown hK hP hD hS 0 rfl rfl 0 (by decide) w2_ (fun _ h9 => h9) rfl (by decide +kernel) rfl rfl (Nat.le_of_ble_eq_true rfl) dX11_way_2 (fun H locs hP hD hS => ?_)
  have hP : va_P (dC, dI) vwCl (wX11_way h0 h1 h2 h3 h4 h5 h6 h7 h8 kc1 kc2 kc3 kc4 kc5 kc6 kc7 kc8 V0 0 v0_rules v0_size v0_known v0_wayState v0_wayLong c1 c2 c3 c4 c5 c6 c7 c8) H := hP
  have hD : va_D A (wX11_way h0 h1 h2 h3 h4 h5 h6 h7 h8 kc1 kc2 kc3 kc4 kc5 kc6 kc7 kc8 V0 0 v0_rules v0_size v0_known v0_wayState v0_wayLong c1 c2 c3 c4 c5 c6 c7 c8) := hD
  refine lv_iload_n hx hb dX11_way_5 rfl (lv_at hl 1 rfl) ?_
  refine lv_iconst (v := 0) hx hb dX11_way_6 (by decide +kernel) ?_
  refine lv_bipush (v := 7) hx hb dX11_way_7 (by decide +kernel) ?_
  obtain ⟨o6, e6, hf⟩ := ob_some hf
  refine kSi (As := [.int a0, .int 0, .int 7]) (rest := []) ⟨hx, hb, hml, hown, hts⟩ (mX11_in l dC dI H.size base a0 0 7 o6 e6) (va_cwS 3 hts (gTS q148 q149 q5 q150) rfl rfl rfl (by decide +kernel) ⟨Nat.le_of_ble_eq_true rfl, Nat.le_of_ble_eq_true rfl⟩) hK hP hD hS hA hE hAB [] [0, 1, 2, 3, 4, 5, 6, 7, 8] [] (wr := (wX11_way h0 h1 h2 h3 h4 h5 h6 h7 h8 kc1 kc2 kc3 kc4 kc5 kc6 kc7 kc8 V0 0 v0_rules v0_size v0_known v0_wayState v0_wayLong c1 c2 c3 c4 c5 c6 c7 c8)) rfl rfl (by decide) (by decide) (by decide) rfl rfl hl.1 rfl (Nat.le_of_ble_eq_true rfl) dX11_way_9 ⟨Nat.zero_le _, Nat.zero_le _⟩ (fun r6 u6 H locs hw6 hP hD hS => ?_)
  obtain ⟨hw61, hw62⟩ := hw6
  subst hw61 hw62
  have hP : va_P (dC, dI) vwCl (wX11_way h0 h1 h2 h3 h4 h5 h6 h7 h8 kc1 kc2 kc3 kc4 kc5 kc6 kc7 kc8 V0 0 v0_rules v0_size v0_known v0_wayState v0_wayLong c1 c2 c3 c4 c5 c6 c7 c8) H := hP.sub [0, 1, 2, 3, 4, 5, 6, 7, 8] rfl
  have hD : va_D A (wX11_way h0 h1 h2 h3 h4 h5 h6 h7 h8 kc1 kc2 kc3 kc4 kc5 kc6 kc7 kc8 V0 0 v0_rules v0_size v0_known v0_wayState v0_wayLong c1 c2 c3 c4 c5 c6 c7 c8) := hD.sub [0, 1, 2, 3, 4, 5, 6, 7, 8] (by decide) rfl
  refine lv_if_ne (tgt := 18) hx hb dX11_way_12 (by decide) (fun cq7 => ?_) (fun cq7 => ?_)
  · replace hf := if_no hf cq7
    refine lv_aload_n hx hb dX11_way_18 rfl (lv_at hl 0 rfl) ?_
    refine va_get (D := (dC, dI)) (ci := 11) (v := .int v0_wayState) (C := RX11) (T := TX11) (N := 71) hx hb hts inlX11 hown hK hP 0 rfl rfl 10 (by decide) w3_ (fun _ h9 => h9) rfl dX11_way_19 ?_
    refine lv_iload_n hx hb dX11_way_22 rfl (lv_at hl 1 rfl) ?_
    refine lv_icmp_eq (tgt := 31) hx hb dX11_way_23 (by decide) (fun cq8 => ?_) (fun cq8 => ?_)
    · replace hf := if_at hf cq8
      exact (hG _ _ _ _ _).mp (J31 a1 0 v0_known v0_wayState v0_wayLong c2 c5 c7 c8 H locs ls (hP.sub [0, 1, 2, 3, 4, 5, 6, 7, 8] rfl) (hD.sub [0, 1, 2, 3, 4, 5, 6, 7, 8] (by decide) rfl) hS (lv_sub hl [0, 2] rfl) hf)
    · replace hf := if_no hf cq8
      refine lv_aload_n hx hb dX11_way_26 rfl (lv_at hl 0 rfl) ?_
      refine lv_iload_n hx hb dX11_way_27 rfl (lv_at hl 1 rfl) ?_
      obtain ⟨o9, e9, hf⟩ := ob_some hf
      refine kVv (As := [.int a0]) (rest := []) ⟨hx, hb, hml, hown, hts⟩ (mX11_findWay l dC dI h0 h1 h2 h3 h4 h5 h6 h7 h8 kc1 kc2 kc3 kc4 kc5 kc6 kc7 kc8 H.size base a0 v0_rules v0_size v0_known v0_wayState v0_wayLong c1 c2 c3 c4 c5 c6 c7 c8 (fun k => match k with | 0 => .int 0 | k => V0 k) o9 e9) (cwV 1 hts (gTV q449 q450 q451 q5 q452) rfl rfl rfl (by decide +kernel) ⟨Nat.le_of_ble_eq_true rfl, Nat.le_of_ble_eq_true rfl⟩) hK hP hD hS hA hE hAB [0, 1, 2, 3, 4, 5, 6, 7, 8] [] [0, 1, 2, 3, 4, 5, 6, 7] (wr := []) rfl rfl (by decide) (by decide) (by decide) rfl (ci := 11) (q0 := 0) rfl rfl rfl rfl hl.1 rfl (Nat.le_of_ble_eq_true rfl) dX11_way_28 ⟨Nat.zero_le _, Nat.zero_le _⟩ (fun u9 H locs hw9 hP hD hS => ?_)
      have hw91 : o9 = u9 := Eq.symm hw9
      subst hw91
      have hP : va_P (dC, dI) vwCl (wX11_way h0 h1 h2 h3 h4 h5 h6 h7 h8 kc1 kc2 kc3 kc4 kc5 kc6 kc7 kc8 V0 0 v0_rules v0_size o9.1 o9.2.1 o9.2.2.1 c1 o9.2.2.2.1 c3 c4 o9.2.2.2.2.1 c6 o9.2.2.2.2.2.1 o9.2.2.2.2.2.2) H := hP.sub [0, 1, 2, 3, 4, 5, 6, 7, 8] rfl
      have hD : va_D A (wX11_way h0 h1 h2 h3 h4 h5 h6 h7 h8 kc1 kc2 kc3 kc4 kc5 kc6 kc7 kc8 V0 0 v0_rules v0_size o9.1 o9.2.1 o9.2.2.1 c1 o9.2.2.2.1 c3 c4 o9.2.2.2.2.1 c6 o9.2.2.2.2.2.1 o9.2.2.2.2.2.2) := hD.sub [0, 1, 2, 3, 4, 5, 6, 7, 8] (by decide) rfl
      exact (hG _ _ _ _ _).mp (J31 a1 0 o9.1 o9.2.1 o9.2.2.1 o9.2.2.2.1 o9.2.2.2.2.1 o9.2.2.2.2.2.1 o9.2.2.2.2.2.2 H locs ls (hP.sub [0, 1, 2, 3, 4, 5, 6, 7, 8] rfl) (hD.sub [0, 1, 2, 3, 4, 5, 6, 7, 8] (by decide) rfl) hS (lv_sub hl [0, 2] rfl) hf)
  · replace hf := if_at hf cq7
    refine lv_bipush (v := (-2)) hx hb dX11_way_15 (by decide +kernel) ?_
    have hf1 := Option.some.inj hf
    subst hf1
    have hP9 := hP.sub (ws' := (wX11_way h0 h1 h2 h3 h4 h5 h6 h7 h8 kc1 kc2 kc3 kc4 kc5 kc6 kc7 kc8 V0 0 v0_rules v0_size v0_known v0_wayState v0_wayLong c1 c2 c3 c4 c5 c6 c7 c8)) [0, 1, 2, 3, 4, 5, 6, 7, 8] rfl
    have hD9 := hD.sub (ws' := (wX11_way h0 h1 h2 h3 h4 h5 h6 h7 h8 kc1 kc2 kc3 kc4 kc5 kc6 kc7 kc8 V0 0 v0_rules v0_size v0_known v0_wayState v0_wayLong c1 c2 c3 c4 c5 c6 c7 c8)) [0, 1, 2, 3, 4, 5, 6, 7, 8] (by decide) rfl
    exact W.iret (v := (-2)) hx hb hr (fun t ht hW => ⟨⟨(-2), (0, v0_known, v0_wayState, v0_wayLong, c2, c5, c7, c8), rfl, ⟨rfl, rfl⟩, by rw [ht]; exact hP9, va_K.moved hW.alike hK, hD9⟩, hS.F ht⟩) hS.2.2 dX11_way_17
