set_option maxHeartbeats 4000000 in
set_option maxRecDepth 100000 in
theorem mX11_forget (l : Launch) (dC : Nat → ClassId) (dI : Nat → Nat → Nat) (h0 : Nat) (sz : Nat) (base : Nat × Nat × Nat) (v0_known : Int32) (v0_wayState : Int32) (V0 : Nat → Value) (o : Int32 × Int32) (hf : fX11_forget v0_known v0_wayState = some o) : Met l yX11_forget (.code yX11_forget cX11_forget 1 none :: wsL_law) ({ frames := 0, cells := 0, slots := 0, locals := 0 }) (cPre (dC, dI) vwCl [.ref h0] sz base [(h0, .inr (11, [V0 0, V0 1, V0 2, V0 3, V0 4, V0 5, V0 6, V0 7, .int v0_known, V0 9, .int v0_wayState, V0 11, V0 12, V0 13, V0 14, V0 15, V0 16, V0 17, V0 18, V0 19, V0 20, V0 21, V0 22, V0 23, V0 24, V0 25, V0 26, V0 27, V0 28, V0 29, V0 30, V0 31, V0 32, V0 33, V0 34, V0 35, V0 36, V0 37, V0 38, V0 39, V0 40, V0 41, V0 42, V0 43, V0 44, V0 45, V0 46, V0 47, V0 48, V0 49, V0 50, V0 51, V0 52, V0 53, V0 54, V0 55, V0 56, V0 57, V0 58, V0 59, V0 60, V0 61, V0 62, V0 63, V0 64, V0 65, V0 66, V0 67, V0 68, V0 69, V0 70]))] []) (va_Qv (fun u => u = o) (fun (u : Int32 × Int32) t => cPost (dC, dI) vwCl (va_A [(h0, .inr (11, [V0 0, V0 1, V0 2, V0 3, V0 4, V0 5, V0 6, V0 7, .int v0_known, V0 9, .int v0_wayState, V0 11, V0 12, V0 13, V0 14, V0 15, V0 16, V0 17, V0 18, V0 19, V0 20, V0 21, V0 22, V0 23, V0 24, V0 25, V0 26, V0 27, V0 28, V0 29, V0 30, V0 31, V0 32, V0 33, V0 34, V0 35, V0 36, V0 37, V0 38, V0 39, V0 40, V0 41, V0 42, V0 43, V0 44, V0 45, V0 46, V0 47, V0 48, V0 49, V0 50, V0 51, V0 52, V0 53, V0 54, V0 55, V0 56, V0 57, V0 58, V0 59, V0 60, V0 61, V0 62, V0 63, V0 64, V0 65, V0 66, V0 67, V0 68, V0 69, V0 70]))] sz) [(h0, .inr (11, [V0 0, V0 1, V0 2, V0 3, V0 4, V0 5, V0 6, V0 7, .int u.1, V0 9, .int u.2, V0 11, V0 12, V0 13, V0 14, V0 15, V0 16, V0 17, V0 18, V0 19, V0 20, V0 21, V0 22, V0 23, V0 24, V0 25, V0 26, V0 27, V0 28, V0 29, V0 30, V0 31, V0 32, V0 33, V0 34, V0 35, V0 36, V0 37, V0 38, V0 39, V0 40, V0 41, V0 42, V0 43, V0 44, V0 45, V0 46, V0 47, V0 48, V0 49, V0 50, V0 51, V0 52, V0 53, V0 54, V0 55, V0 56, V0 57, V0 58, V0 59, V0 60, V0 61, V0 62, V0 63, V0 64, V0 65, V0 66, V0 67, V0 68, V0 69, V0 70]))] [] t) (va_A [(h0, .inr (11, [V0 0, V0 1, V0 2, V0 3, V0 4, V0 5, V0 6, V0 7, .int v0_known, V0 9, .int v0_wayState, V0 11, V0 12, V0 13, V0 14, V0 15, V0 16, V0 17, V0 18, V0 19, V0 20, V0 21, V0 22, V0 23, V0 24, V0 25, V0 26, V0 27, V0 28, V0 29, V0 30, V0 31, V0 32, V0 33, V0 34, V0 35, V0 36, V0 37, V0 38, V0 39, V0 40, V0 41, V0 42, V0 43, V0 44, V0 45, V0 46, V0 47, V0 48, V0 49, V0 50, V0 51, V0 52, V0 53, V0 54, V0 55, V0 56, V0 57, V0 58, V0 59, V0 60, V0 61, V0 62, V0 63, V0 64, V0 65, V0 66, V0 67, V0 68, V0 69, V0 70]))] sz)) 0 0 (va_A [(h0, .inr (11, [V0 0, V0 1, V0 2, V0 3, V0 4, V0 5, V0 6, V0 7, .int v0_known, V0 9, .int v0_wayState, V0 11, V0 12, V0 13, V0 14, V0 15, V0 16, V0 17, V0 18, V0 19, V0 20, V0 21, V0 22, V0 23, V0 24, V0 25, V0 26, V0 27, V0 28, V0 29, V0 30, V0 31, V0 32, V0 33, V0 34, V0 35, V0 36, V0 37, V0 38, V0 39, V0 40, V0 41, V0 42, V0 43, V0 44, V0 45, V0 46, V0 47, V0 48, V0 49, V0 50, V0 51, V0 52, V0 53, V0 54, V0 55, V0 56, V0 57, V0 58, V0 59, V0 60, V0 61, V0 62, V0 63, V0 64, V0 65, V0 66, V0 67, V0 68, V0 69, V0 70]))] sz) := by
  refine Met.ofW (cc := cX11_forget) (maxL := 1) (ret := none) (by decide) rfl ?_
  intro p e s m args below meth c s₁ B hml hv
  obtain ⟨rfl, hsz, hP, hK, hD0, hE⟩ := hv
  have hx := B.exec
  have hb := B.bytes
  have hr := B.returns
  have hts : ∀ w ∈ wsL_law, _ := fun w h => atoms_spec (ws := .code yX11_forget cX11_forget 1 none :: wsL_law) B.pre w (List.mem_cons_of_mem _ h)
  have hown : s.vm.findClass RX11 = some m.cls := findClass_of_methodNamed B.named
  have hlocks := B.notSynchronized
  have w0_ := hts _ q155
  have w1_ := hts _ q84
  subst hsz
  have hD := hD0.self (sz := s.heap.size)
  generalize hAe : va_A [(h0, .inr (11, [V0 0, V0 1, V0 2, V0 3, V0 4, V0 5, V0 6, V0 7, .int v0_known, V0 9, .int v0_wayState, V0 11, V0 12, V0 13, V0 14, V0 15, V0 16, V0 17, V0 18, V0 19, V0 20, V0 21, V0 22, V0 23, V0 24, V0 25, V0 26, V0 27, V0 28, V0 29, V0 30, V0 31, V0 32, V0 33, V0 34, V0 35, V0 36, V0 37, V0 38, V0 39, V0 40, V0 41, V0 42, V0 43, V0 44, V0 45, V0 46, V0 47, V0 48, V0 49, V0 50, V0 51, V0 52, V0 53, V0 54, V0 55, V0 56, V0 57, V0 58, V0 59, V0 60, V0 61, V0 62, V0 63, V0 64, V0 65, V0 66, V0 67, V0 68, V0 69, V0 70]))] s.heap.size = A at hD ⊢
  have hA : ∀ q : Nat, s.heap.size ≤ q → A q := fun q h => by rw [← hAe]; exact Or.inr h
  have hAB : ∀ q : Nat, A q → base.1 ≤ q := fun q h => by rw [← hAe] at h; exact h.elim (fun ⟨k, e, hk⟩ => hD0.2 k _ hk) (fun hk => Nat.le_trans hE.1 hk)
  have hS : va_S A s.heap s.heap [] := va_S.rf
  have hl := lv_entry ([.ref h0]) (n := 1) (Nat.le_of_ble_eq_true rfl)
  rw [lg_entry_eq]
  generalize (lg_sl ([.ref h0]) ++ List.replicate (1 - (lg_sl ([.ref h0])).length) Slot.unset).toArray = ls at hl ⊢
  have hl : lv_has ls 1 [(0, .ref h0)] := hl
  have hP : va_P (dC, dI) vwCl [(h0, .inr (11, [V0 0, V0 1, V0 2, V0 3, V0 4, V0 5, V0 6, V0 7, .int v0_known, V0 9, .int v0_wayState, V0 11, V0 12, V0 13, V0 14, V0 15, V0 16, V0 17, V0 18, V0 19, V0 20, V0 21, V0 22, V0 23, V0 24, V0 25, V0 26, V0 27, V0 28, V0 29, V0 30, V0 31, V0 32, V0 33, V0 34, V0 35, V0 36, V0 37, V0 38, V0 39, V0 40, V0 41, V0 42, V0 43, V0 44, V0 45, V0 46, V0 47, V0 48, V0 49, V0 50, V0 51, V0 52, V0 53, V0 54, V0 55, V0 56, V0 57, V0 58, V0 59, V0 60, V0 61, V0 62, V0 63, V0 64, V0 65, V0 66, V0 67, V0 68, V0 69, V0 70]))] s.heap := hP
  obtain ⟨H, hH⟩ : ∃ H, H = s.heap := ⟨_, rfl⟩
  have hS : va_S A s.heap H [] := by rw [hH]; exact hS
  rw [← hH] at hP ⊢
  generalize ([] : List Loc) = locs at hS ⊢
  unfold fX11_forget at hf
  refine lv_aload_n hx hb dX11_forget_0 rfl (lv_at hl 0 rfl) ?_
  refine lv_iconst (v := 0) hx hb dX11_forget_1 (by decide +kernel) ?_
  refine va_put (D := (dC, dI)) (ci := 11) (v := .int 0) (ty := .boolean) (C := RX11) (T := TX11) (N := 71) hx hb hts inlX11 tyX11 tyX11_ok nmX11 hown hK hP hD hS 0 rfl rfl 8 (by decide) w0_ (fun _ h9 => h9) rfl (by decide +kernel) rfl rfl (Nat.le_of_ble_eq_true rfl) dX11_forget_2 (fun H locs hP hD hS => ?_)
  have hP : va_P (dC, dI) vwCl [(h0, .inr (11, [V0 0, V0 1, V0 2, V0 3, V0 4, V0 5, V0 6, V0 7, .int 0, V0 9, .int v0_wayState, V0 11, V0 12, V0 13, V0 14, V0 15, V0 16, V0 17, V0 18, V0 19, V0 20, V0 21, V0 22, V0 23, V0 24, V0 25, V0 26, V0 27, V0 28, V0 29, V0 30, V0 31, V0 32, V0 33, V0 34, V0 35, V0 36, V0 37, V0 38, V0 39, V0 40, V0 41, V0 42, V0 43, V0 44, V0 45, V0 46, V0 47, V0 48, V0 49, V0 50, V0 51, V0 52, V0 53, V0 54, V0 55, V0 56, V0 57, V0 58, V0 59, V0 60, V0 61, V0 62, V0 63, V0 64, V0 65, V0 66, V0 67, V0 68, V0 69, V0 70]))] H := hP
  have hD : va_D A [(h0, .inr (11, [V0 0, V0 1, V0 2, V0 3, V0 4, V0 5, V0 6, V0 7, .int 0, V0 9, .int v0_wayState, V0 11, V0 12, V0 13, V0 14, V0 15, V0 16, V0 17, V0 18, V0 19, V0 20, V0 21, V0 22, V0 23, V0 24, V0 25, V0 26, V0 27, V0 28, V0 29, V0 30, V0 31, V0 32, V0 33, V0 34, V0 35, V0 36, V0 37, V0 38, V0 39, V0 40, V0 41, V0 42, V0 43, V0 44, V0 45, V0 46, V0 47, V0 48, V0 49, V0 50, V0 51, V0 52, V0 53, V0 54, V0 55, V0 56, V0 57, V0 58, V0 59, V0 60, V0 61, V0 62, V0 63, V0 64, V0 65, V0 66, V0 67, V0 68, V0 69, V0 70]))] := hD
  refine lv_aload_n hx hb dX11_forget_5 rfl (lv_at hl 0 rfl) ?_
  refine lv_iconst (v := (-1)) hx hb dX11_forget_6 (by decide +kernel) ?_
  refine va_put (D := (dC, dI)) (ci := 11) (v := .int (-1)) (ty := .int) (C := RX11) (T := TX11) (N := 71) hx hb hts inlX11 tyX11 tyX11_ok nmX11 hown hK hP hD hS 0 rfl rfl 10 (by decide) w1_ (fun _ h9 => h9) rfl (by decide +kernel) rfl rfl (Nat.le_of_ble_eq_true rfl) dX11_forget_7 (fun H locs hP hD hS => ?_)
  have hP : va_P (dC, dI) vwCl [(h0, .inr (11, [V0 0, V0 1, V0 2, V0 3, V0 4, V0 5, V0 6, V0 7, .int 0, V0 9, .int (-1), V0 11, V0 12, V0 13, V0 14, V0 15, V0 16, V0 17, V0 18, V0 19, V0 20, V0 21, V0 22, V0 23, V0 24, V0 25, V0 26, V0 27, V0 28, V0 29, V0 30, V0 31, V0 32, V0 33, V0 34, V0 35, V0 36, V0 37, V0 38, V0 39, V0 40, V0 41, V0 42, V0 43, V0 44, V0 45, V0 46, V0 47, V0 48, V0 49, V0 50, V0 51, V0 52, V0 53, V0 54, V0 55, V0 56, V0 57, V0 58, V0 59, V0 60, V0 61, V0 62, V0 63, V0 64, V0 65, V0 66, V0 67, V0 68, V0 69, V0 70]))] H := hP
  have hD : va_D A [(h0, .inr (11, [V0 0, V0 1, V0 2, V0 3, V0 4, V0 5, V0 6, V0 7, .int 0, V0 9, .int (-1), V0 11, V0 12, V0 13, V0 14, V0 15, V0 16, V0 17, V0 18, V0 19, V0 20, V0 21, V0 22, V0 23, V0 24, V0 25, V0 26, V0 27, V0 28, V0 29, V0 30, V0 31, V0 32, V0 33, V0 34, V0 35, V0 36, V0 37, V0 38, V0 39, V0 40, V0 41, V0 42, V0 43, V0 44, V0 45, V0 46, V0 47, V0 48, V0 49, V0 50, V0 51, V0 52, V0 53, V0 54, V0 55, V0 56, V0 57, V0 58, V0 59, V0 60, V0 61, V0 62, V0 63, V0 64, V0 65, V0 66, V0 67, V0 68, V0 69, V0 70]))] := hD
  have hf1 := Option.some.inj hf
  subst hf1
  have hP9 := hP.sub (ws' := [(h0, .inr (11, [V0 0, V0 1, V0 2, V0 3, V0 4, V0 5, V0 6, V0 7, .int 0, V0 9, .int (-1), V0 11, V0 12, V0 13, V0 14, V0 15, V0 16, V0 17, V0 18, V0 19, V0 20, V0 21, V0 22, V0 23, V0 24, V0 25, V0 26, V0 27, V0 28, V0 29, V0 30, V0 31, V0 32, V0 33, V0 34, V0 35, V0 36, V0 37, V0 38, V0 39, V0 40, V0 41, V0 42, V0 43, V0 44, V0 45, V0 46, V0 47, V0 48, V0 49, V0 50, V0 51, V0 52, V0 53, V0 54, V0 55, V0 56, V0 57, V0 58, V0 59, V0 60, V0 61, V0 62, V0 63, V0 64, V0 65, V0 66, V0 67, V0 68, V0 69, V0 70]))]) [0] rfl
  have hD9 := hD.sub (ws' := [(h0, .inr (11, [V0 0, V0 1, V0 2, V0 3, V0 4, V0 5, V0 6, V0 7, .int 0, V0 9, .int (-1), V0 11, V0 12, V0 13, V0 14, V0 15, V0 16, V0 17, V0 18, V0 19, V0 20, V0 21, V0 22, V0 23, V0 24, V0 25, V0 26, V0 27, V0 28, V0 29, V0 30, V0 31, V0 32, V0 33, V0 34, V0 35, V0 36, V0 37, V0 38, V0 39, V0 40, V0 41, V0 42, V0 43, V0 44, V0 45, V0 46, V0 47, V0 48, V0 49, V0 50, V0 51, V0 52, V0 53, V0 54, V0 55, V0 56, V0 57, V0 58, V0 59, V0 60, V0 61, V0 62, V0 63, V0 64, V0 65, V0 66, V0 67, V0 68, V0 69, V0 70]))]) [0] (by decide) rfl
  exact W.vret hx hb hr (fun t ht hW => ⟨⟨(0, (-1)), rfl, rfl, by rw [ht]; exact hP9, va_K.moved hW.alike hK, hD9⟩, hS.F ht⟩) hS.2.2 dX11_forget_10
abbrev wX11_arc (h0 h1 : Nat) (kc1 : ClassId) (V0 : Nat → Value) (v0_thrown : Int32) (v0_arcs : Int32) (v0_known : Int32) (v0_wayState : Int32) (c1 : Nat → Int32) : va_W := [(h0, .inr (11, [.int v0_thrown, V0 1, V0 2, .int v0_arcs, .ref h1, V0 5, V0 6, V0 7, .int v0_known, V0 9, .int v0_wayState, V0 11, V0 12, V0 13, V0 14, V0 15, V0 16, V0 17, V0 18, V0 19, V0 20, V0 21, V0 22, V0 23, V0 24, V0 25, V0 26, V0 27, V0 28, V0 29, V0 30, V0 31, V0 32, V0 33, V0 34, V0 35, V0 36, V0 37, V0 38, V0 39, V0 40, V0 41, V0 42, V0 43, V0 44, V0 45, V0 46, V0 47, V0 48, V0 49, V0 50, V0 51, V0 52, V0 53, V0 54, V0 55, V0 56, V0 57, V0 58, V0 59, V0 60, V0 61, V0 62, V0 63, V0 64, V0 65, V0 66, V0 67, V0 68, V0 69, V0 70])), (h1, .inl (kc1, 3072, .inl c1))]
set_option maxHeartbeats 4000000 in
set_option maxRecDepth 100000 in
theorem mX11_arc (l : Launch) (dC : Nat → ClassId) (dI : Nat → Nat → Nat) (h0 h1 : Nat) (kc1 : ClassId) (sz : Nat) (base : Nat × Nat × Nat) (a0 : Int32) (a1 : Int32) (a2 : Int32) (v0_thrown : Int32) (v0_arcs : Int32) (v0_known : Int32) (v0_wayState : Int32) (c1 : Nat → Int32) (V0 : Nat → Value) (o : Int32 × Int32 × Int32 × Int32 × Int32 × (Nat → Int32)) (hf : fX11_arc a0 a1 a2 v0_thrown v0_arcs v0_known v0_wayState c1 = some o) : Met l yX11_arc (.code yX11_arc cX11_arc 5 (some .int) :: wsL_law) ({ frames := 1, cells := 0, slots := 0, locals := 22 }) (cPre (dC, dI) vwCl [.ref h0, .int a0, .int a1, .int a2] sz base (wX11_arc h0 h1 kc1 V0 v0_thrown v0_arcs v0_known v0_wayState c1) [(kc1, .boolean)]) (va_Qi (fun r u => r = o.1 ∧ u = o.2) (fun (u : Int32 × Int32 × Int32 × Int32 × (Nat → Int32)) t => cPost (dC, dI) vwCl (va_A (wX11_arc h0 h1 kc1 V0 v0_thrown v0_arcs v0_known v0_wayState c1) sz) (wX11_arc h0 h1 kc1 V0 u.1 u.2.1 u.2.2.1 u.2.2.2.1 u.2.2.2.2) [(kc1, .boolean)] t) (va_A (wX11_arc h0 h1 kc1 V0 v0_thrown v0_arcs v0_known v0_wayState c1) sz)) 0 0 (va_A (wX11_arc h0 h1 kc1 V0 v0_thrown v0_arcs v0_known v0_wayState c1) sz) := by
  refine Met.ofW (cc := cX11_arc) (maxL := 5) (ret := (some .int)) (by decide) rfl ?_
  intro p e s m args below meth c s₁ B hml hv
  obtain ⟨rfl, hsz, hP, hK, hD0, hE⟩ := hv
  have hx := B.exec
  have hb := B.bytes
  have hr := B.returns
  have hts : ∀ w ∈ wsL_law, _ := fun w h => atoms_spec (ws := .code yX11_arc cX11_arc 5 (some .int) :: wsL_law) B.pre w (List.mem_cons_of_mem _ h)
  have hown : s.vm.findClass RX11 = some m.cls := findClass_of_methodNamed B.named
  have hlocks := B.notSynchronized
  have w0_ := hts _ q146
  have w1_ := hts _ q80
  have w2_ := hts _ q172
  subst hsz
  have hD := hD0.self (sz := s.heap.size)
  generalize hAe : va_A (wX11_arc h0 h1 kc1 V0 v0_thrown v0_arcs v0_known v0_wayState c1) s.heap.size = A at hD ⊢
  have hA : ∀ q : Nat, s.heap.size ≤ q → A q := fun q h => by rw [← hAe]; exact Or.inr h
  have hAB : ∀ q : Nat, A q → base.1 ≤ q := fun q h => by rw [← hAe] at h; exact h.elim (fun ⟨k, e, hk⟩ => hD0.2 k _ hk) (fun hk => Nat.le_trans hE.1 hk)
  have hS : va_S A s.heap s.heap [] := va_S.rf
  have hl := lv_entry ([.ref h0, .int a0, .int a1, .int a2]) (n := 5) (Nat.le_of_ble_eq_true rfl)
  rw [lg_entry_eq]
  generalize (lg_sl ([.ref h0, .int a0, .int a1, .int a2]) ++ List.replicate (5 - (lg_sl ([.ref h0, .int a0, .int a1, .int a2])).length) Slot.unset).toArray = ls at hl ⊢
  have hl : lv_has ls 5 [(0, .ref h0), (1, .int a0), (2, .int a1), (3, .int a2)] := hl
  have hP : va_P (dC, dI) vwCl (wX11_arc h0 h1 kc1 V0 v0_thrown v0_arcs v0_known v0_wayState c1) s.heap := hP
  refine gl_intro (fun G hG => ?_)
  have J36 : ∀ (v0_thrown : Int32) (v0_arcs : Int32) (v0_known : Int32) (v0_wayState : Int32) (c1 : (Nat → Int32)) (H : Heap) (locs : List Loc) (ls : Array Slot), va_P (dC, dI) vwCl (wX11_arc h0 h1 kc1 V0 v0_thrown v0_arcs v0_known v0_wayState c1) H → va_D A (wX11_arc h0 h1 kc1 V0 v0_thrown v0_arcs v0_known v0_wayState c1) → va_S A s.heap H locs → lv_has ls 5 [(0, .ref h0)] → fX11_arc_p36   v0_thrown v0_arcs v0_known v0_wayState c1 = some o → G 0 0 H locs (F0 m 36 ls []) := by
    intro  v0_thrown v0_arcs v0_known v0_wayState c1 H locs ls hP hD hS hl hf
    refine (hG _ _ _ _ _).mpr ?_
    unfold fX11_arc_p36 at hf
    refine lv_bipush (v := (-2)) hx hb dX11_arc_36 (by decide +kernel) ?_
    have hf1 := Option.some.inj hf
    subst hf1
    have hP9 := hP.sub (ws' := (wX11_arc h0 h1 kc1 V0 v0_thrown v0_arcs v0_known v0_wayState c1)) [0, 1] rfl
    have hD9 := hD.sub (ws' := (wX11_arc h0 h1 kc1 V0 v0_thrown v0_arcs v0_known v0_wayState c1)) [0, 1] (by decide) rfl
    exact W.iret (v := (-2)) hx hb hr (fun t ht hW => ⟨⟨(-2), (v0_thrown, v0_arcs, v0_known, v0_wayState, c1), rfl, ⟨rfl, rfl⟩, by rw [ht]; exact hP9, va_K.moved hW.alike hK, hD9⟩, hS.F ht⟩) hS.2.2 dX11_arc_38
  refine (hG _ _ _ _ _).mpr ?_
  obtain ⟨H, hH⟩ : ∃ H, H = s.heap := ⟨_, rfl⟩
  have hS : va_S A s.heap H [] := by rw [hH]; exact hS
  rw [← hH] at hP ⊢
  generalize ([] : List Loc) = locs at hS ⊢
  unfold fX11_arc at hf
  refine lv_aload_n hx hb dX11_arc_0 rfl (lv_at hl 0 rfl) ?_
  refine lv_iconst (v := 0) hx hb dX11_arc_1 (by decide +kernel) ?_
  refine va_put (D := (dC, dI)) (ci := 11) (v := .int 0) (ty := .int) (C := RX11) (T := TX11) (N := 71) hx hb hts inlX11 tyX11 tyX11_ok nmX11 hown hK hP hD hS 0 rfl rfl 0 (by decide) w0_ (fun _ h9 => h9) rfl (by decide +kernel) rfl rfl (Nat.le_of_ble_eq_true rfl) dX11_arc_2 (fun H locs hP hD hS => ?_)
  have hP : va_P (dC, dI) vwCl (wX11_arc h0 h1 kc1 V0 0 v0_arcs v0_known v0_wayState c1) H := hP
  have hD : va_D A (wX11_arc h0 h1 kc1 V0 0 v0_arcs v0_known v0_wayState c1) := hD
  refine lv_iload_n hx hb dX11_arc_5 rfl (lv_at hl 1 rfl) ?_
  refine lv_iconst (v := 0) hx hb dX11_arc_6 (by decide +kernel) ?_
  refine lv_bipush (v := 15) hx hb dX11_arc_7 (by decide +kernel) ?_
  obtain ⟨o1, e1, hf⟩ := ob_some hf
  refine kSi (As := [.int a0, .int 0, .int 15]) (rest := []) ⟨hx, hb, hml, hown, hts⟩ (mX11_in l dC dI H.size base a0 0 15 o1 e1) (va_cwS 3 hts (gTS q148 q149 q5 q150) rfl rfl rfl (by decide +kernel) ⟨Nat.le_of_ble_eq_true rfl, Nat.le_of_ble_eq_true rfl⟩) hK hP hD hS hA hE hAB [] [0, 1] [] (wr := (wX11_arc h0 h1 kc1 V0 0 v0_arcs v0_known v0_wayState c1)) rfl rfl (by decide) (by decide) (by decide) rfl rfl hl.1 rfl (Nat.le_of_ble_eq_true rfl) dX11_arc_9 ⟨Nat.zero_le _, Nat.zero_le _⟩ (fun r1 u1 H locs hw1 hP hD hS => ?_)
  obtain ⟨hw11, hw12⟩ := hw1
  subst hw11 hw12
  have hP : va_P (dC, dI) vwCl (wX11_arc h0 h1 kc1 V0 0 v0_arcs v0_known v0_wayState c1) H := hP.sub [0, 1] rfl
  have hD : va_D A (wX11_arc h0 h1 kc1 V0 0 v0_arcs v0_known v0_wayState c1) := hD.sub [0, 1] (by decide) rfl
  refine lv_if_eq (tgt := 36) hx hb dX11_arc_12 (by decide) (fun cq2 => ?_) (fun cq2 => ?_)
  · replace hf := if_at hf cq2
    exact (hG _ _ _ _ _).mp (J36 0 v0_arcs v0_known v0_wayState c1 H locs ls (hP.sub [0, 1] rfl) (hD.sub [0, 1] (by decide) rfl) hS (lv_sub hl [0] rfl) hf)
  · replace hf := if_no hf cq2
    refine lv_iload_n hx hb dX11_arc_15 rfl (lv_at hl 2 rfl) ?_
    refine lv_iconst (v := 0) hx hb dX11_arc_16 (by decide +kernel) ?_
    refine lv_bipush (v := 11) hx hb dX11_arc_17 (by decide +kernel) ?_
    obtain ⟨o3, e3, hf⟩ := ob_some hf
    refine kSi (As := [.int a1, .int 0, .int 11]) (rest := []) ⟨hx, hb, hml, hown, hts⟩ (mX11_in l dC dI H.size base a1 0 11 o3 e3) (va_cwS 3 hts (gTS q148 q149 q5 q150) rfl rfl rfl (by decide +kernel) ⟨Nat.le_of_ble_eq_true rfl, Nat.le_of_ble_eq_true rfl⟩) hK hP hD hS hA hE hAB [] [0, 1] [] (wr := (wX11_arc h0 h1 kc1 V0 0 v0_arcs v0_known v0_wayState c1)) rfl rfl (by decide) (by decide) (by decide) rfl rfl hl.1 rfl (Nat.le_of_ble_eq_true rfl) dX11_arc_19 ⟨Nat.zero_le _, Nat.zero_le _⟩ (fun r3 u3 H locs hw3 hP hD hS => ?_)
    obtain ⟨hw31, hw32⟩ := hw3
    subst hw31 hw32
    have hP : va_P (dC, dI) vwCl (wX11_arc h0 h1 kc1 V0 0 v0_arcs v0_known v0_wayState c1) H := hP.sub [0, 1] rfl
    have hD : va_D A (wX11_arc h0 h1 kc1 V0 0 v0_arcs v0_known v0_wayState c1) := hD.sub [0, 1] (by decide) rfl
    refine lv_if_eq (tgt := 36) hx hb dX11_arc_22 (by decide) (fun cq4 => ?_) (fun cq4 => ?_)
    · replace hf := if_at hf cq4
      exact (hG _ _ _ _ _).mp (J36 0 v0_arcs v0_known v0_wayState c1 H locs ls (hP.sub [0, 1] rfl) (hD.sub [0, 1] (by decide) rfl) hS (lv_sub hl [0] rfl) hf)
    · replace hf := if_no hf cq4
      refine lv_iload_n hx hb dX11_arc_25 rfl (lv_at hl 3 rfl) ?_
      refine lv_bipush (v := 8) hx hb dX11_arc_26 (by decide +kernel) ?_
      refine lv_bipush (v := 15) hx hb dX11_arc_28 (by decide +kernel) ?_
      obtain ⟨o5, e5, hf⟩ := ob_some hf
      refine kSi (As := [.int a2, .int 8, .int 15]) (rest := []) ⟨hx, hb, hml, hown, hts⟩ (mX11_in l dC dI H.size base a2 8 15 o5 e5) (va_cwS 3 hts (gTS q148 q149 q5 q150) rfl rfl rfl (by decide +kernel) ⟨Nat.le_of_ble_eq_true rfl, Nat.le_of_ble_eq_true rfl⟩) hK hP hD hS hA hE hAB [] [0, 1] [] (wr := (wX11_arc h0 h1 kc1 V0 0 v0_arcs v0_known v0_wayState c1)) rfl rfl (by decide) (by decide) (by decide) rfl rfl hl.1 rfl (Nat.le_of_ble_eq_true rfl) dX11_arc_30 ⟨Nat.zero_le _, Nat.zero_le _⟩ (fun r5 u5 H locs hw5 hP hD hS => ?_)
      obtain ⟨hw51, hw52⟩ := hw5
      subst hw51 hw52
      have hP : va_P (dC, dI) vwCl (wX11_arc h0 h1 kc1 V0 0 v0_arcs v0_known v0_wayState c1) H := hP.sub [0, 1] rfl
      have hD : va_D A (wX11_arc h0 h1 kc1 V0 0 v0_arcs v0_known v0_wayState c1) := hD.sub [0, 1] (by decide) rfl
      refine lv_if_ne (tgt := 39) hx hb dX11_arc_33 (by decide) (fun cq6 => ?_) (fun cq6 => ?_)
      · replace hf := if_no hf cq6
        refine lv_sipush (v := 192) hx hb dX11_arc_39 (by decide +kernel) ?_
        refine lv_iload_n hx hb dX11_arc_42 rfl (lv_at hl 1 rfl) ?_
        refine lv_imul hx hb dX11_arc_43 ?_
        refine lv_topi (fun x7 e7 => ?_)
        replace hf := nm_at hf e7
        refine lv_bipush (v := 16) hx hb dX11_arc_44 (by decide +kernel) ?_
        refine lv_iload_n hx hb dX11_arc_46 rfl (lv_at hl 2 rfl) ?_
        refine lv_imul hx hb dX11_arc_47 ?_
        refine lv_topi (fun x8 e8 => ?_)
        replace hf := nm_at hf e8
        refine lv_iadd hx hb dX11_arc_48 ?_
        refine lv_topi (fun x9 e9 => ?_)
        replace hf := nm_at hf e9
        refine lv_iload_n hx hb dX11_arc_49 rfl (lv_at hl 3 rfl) ?_
        refine lv_iadd hx hb dX11_arc_50 ?_
        refine lv_topi (fun x10 e10 => ?_)
        replace hf := nm_at hf e10
        refine lv_istore (lv' := [(4, .int x10), (0, .ref h0), (1, .int a0), (2, .int a1), (3, .int a2)]) hx hb dX11_arc_51 hl (by decide) rfl (fun ls hl => ?_)
        refine lv_aload_n hx hb dX11_arc_53 rfl (lv_at hl 1 rfl) ?_
        refine va_get (D := (dC, dI)) (ci := 11) (v := .ref h1) (C := RX11) (T := TX11) (N := 71) hx hb hts inlX11 hown hK hP 0 rfl rfl 4 (by decide) w1_ (fun _ h9 => h9) rfl dX11_arc_54 ?_
        refine lv_iload hx hb dX11_arc_57 (lv_at hl 0 rfl) ?_
        have b11 := bd_in hf
        replace hf := bd_k hf
        refine va_zald hx hb hK hP 1 0 rfl rfl b11 dX11_arc_59 ?_
        refine lv_topi (fun x12 e12 => ?_)
        replace hf := nm_at hf e12
        refine lv_if_eq (tgt := 68) hx hb dX11_arc_60 (by decide) (fun cq13 => ?_) (fun cq13 => ?_)
        · replace hf := if_at hf cq13
          refine lv_aload_n hx hb dX11_arc_68 rfl (lv_at hl 1 rfl) ?_
          refine va_get (D := (dC, dI)) (ci := 11) (v := .int v0_arcs) (C := RX11) (T := TX11) (N := 71) hx hb hts inlX11 hown hK hP 0 rfl rfl 3 (by decide) w2_ (fun _ h9 => h9) rfl dX11_arc_69 ?_
          refine lv_bipush (v := 64) hx hb dX11_arc_72 (by decide +kernel) ?_
          refine lv_icmp_ne (tgt := 80) hx hb dX11_arc_74 (by decide) (fun cq14 => ?_) (fun cq14 => ?_)
          · replace hf := if_no hf cq14
            refine lv_aload_n hx hb dX11_arc_80 rfl (lv_at hl 1 rfl) ?_
            refine va_get (D := (dC, dI)) (ci := 11) (v := .ref h1) (C := RX11) (T := TX11) (N := 71) hx hb hts inlX11 hown hK hP 0 rfl rfl 4 (by decide) w1_ (fun _ h9 => h9) rfl dX11_arc_81 ?_
            refine lv_iload hx hb dX11_arc_84 (lv_at hl 0 rfl) ?_
            refine lv_iconst (v := 1) hx hb dX11_arc_86 (by decide +kernel) ?_
            have b15 := bd_in hf
            replace hf := bd_k hf
            obtain ⟨c15x, e15⟩ : ∃ y, y = upd c1 x10.toNatClampNeg (vp_nar .boolean 1) := ⟨_, rfl⟩
            replace hf := nm_at hf e15
            refine va_zast hx hb hK hP hD hS 1 0 rfl rfl b15 dX11_arc_87 (fun H locs hP hD hS => ?_)
            have hP : va_P (dC, dI) vwCl (wX11_arc h0 h1 kc1 V0 0 v0_arcs v0_known v0_wayState c15x) H := by rw [e15]; exact hP
            have hD : va_D A (wX11_arc h0 h1 kc1 V0 0 v0_arcs v0_known v0_wayState c15x) := by rw [e15]; exact hD
            refine lv_aload_n hx hb dX11_arc_88 rfl (lv_at hl 1 rfl) ?_
            refine lv_dup hx hb dX11_arc_89 rfl ?_
            refine va_get (D := (dC, dI)) (ci := 11) (v := .int v0_arcs) (C := RX11) (T := TX11) (N := 71) hx hb hts inlX11 hown hK hP 0 rfl rfl 3 (by decide) w2_ (fun _ h9 => h9) rfl dX11_arc_90 ?_
            refine lv_iconst (v := 1) hx hb dX11_arc_93 (by decide +kernel) ?_
            refine lv_iadd hx hb dX11_arc_94 ?_
            refine lv_topi (fun x16 e16 => ?_)
            replace hf := nm_at hf e16
            refine va_put (D := (dC, dI)) (ci := 11) (v := .int x16) (ty := .int) (C := RX11) (T := TX11) (N := 71) hx hb hts inlX11 tyX11 tyX11_ok nmX11 hown hK hP hD hS 0 rfl rfl 3 (by decide) w2_ (fun _ h9 => h9) rfl (by decide +kernel) rfl rfl (Nat.le_of_ble_eq_true rfl) dX11_arc_95 (fun H locs hP hD hS => ?_)
            have hP : va_P (dC, dI) vwCl (wX11_arc h0 h1 kc1 V0 0 x16 v0_known v0_wayState c15x) H := hP
            have hD : va_D A (wX11_arc h0 h1 kc1 V0 0 x16 v0_known v0_wayState c15x) := hD
            refine lv_aload_n hx hb dX11_arc_98 rfl (lv_at hl 1 rfl) ?_
            obtain ⟨o17, e17, hf⟩ := ob_some hf
            refine kVv (As := []) (rest := []) ⟨hx, hb, hml, hown, hts⟩ (mX11_forget l dC dI h0 H.size base v0_known v0_wayState (fun k => match k with | 0 => .int 0 | 3 => .int x16 | 4 => .ref h1 | k => V0 k) o17 e17) (cwV 0 hts (gTV q151 q152 q153 q5 q154) rfl rfl rfl (by decide +kernel) ⟨Nat.le_of_ble_eq_true rfl, Nat.le_of_ble_eq_true rfl⟩) hK hP hD hS hA hE hAB [0] [1] [] (wr := [(h1, .inl (kc1, 3072, .inl c15x))]) rfl rfl (by decide) (by decide) (by decide) rfl (ci := 11) (q0 := 0) rfl rfl rfl rfl hl.1 rfl (Nat.le_of_ble_eq_true rfl) dX11_arc_99 ⟨Nat.zero_le _, Nat.zero_le _⟩ (fun u17 H locs hw17 hP hD hS => ?_)
            have hw171 : o17 = u17 := Eq.symm hw17
            subst hw171
            have hP : va_P (dC, dI) vwCl (wX11_arc h0 h1 kc1 V0 0 x16 o17.1 o17.2 c15x) H := hP.sub [1, 0] rfl
            have hD : va_D A (wX11_arc h0 h1 kc1 V0 0 x16 o17.1 o17.2 c15x) := hD.sub [1, 0] (by decide) rfl
            refine lv_aload_n hx hb dX11_arc_102 rfl (lv_at hl 1 rfl) ?_
            refine va_get (D := (dC, dI)) (ci := 11) (v := .int x16) (C := RX11) (T := TX11) (N := 71) hx hb hts inlX11 hown hK hP 0 rfl rfl 3 (by decide) w2_ (fun _ h9 => h9) rfl dX11_arc_103 ?_
            have hf1 := Option.some.inj hf
            subst hf1
            have hP9 := hP.sub (ws' := (wX11_arc h0 h1 kc1 V0 0 x16 o17.1 o17.2 c15x)) [0, 1] rfl
            have hD9 := hD.sub (ws' := (wX11_arc h0 h1 kc1 V0 0 x16 o17.1 o17.2 c15x)) [0, 1] (by decide) rfl
            exact W.iret (v := x16) hx hb hr (fun t ht hW => ⟨⟨x16, (0, x16, o17.1, o17.2, c15x), rfl, ⟨rfl, rfl⟩, by rw [ht]; exact hP9, va_K.moved hW.alike hK, hD9⟩, hS.F ht⟩) hS.2.2 dX11_arc_106
          · replace hf := if_at hf cq14
            refine lv_bipush (v := (-3)) hx hb dX11_arc_77 (by decide +kernel) ?_
            have hf1 := Option.some.inj hf
            subst hf1
            have hP9 := hP.sub (ws' := (wX11_arc h0 h1 kc1 V0 0 v0_arcs v0_known v0_wayState c1)) [0, 1] rfl
            have hD9 := hD.sub (ws' := (wX11_arc h0 h1 kc1 V0 0 v0_arcs v0_known v0_wayState c1)) [0, 1] (by decide) rfl
            exact W.iret (v := (-3)) hx hb hr (fun t ht hW => ⟨⟨(-3), (0, v0_arcs, v0_known, v0_wayState, c1), rfl, ⟨rfl, rfl⟩, by rw [ht]; exact hP9, va_K.moved hW.alike hK, hD9⟩, hS.F ht⟩) hS.2.2 dX11_arc_79
        · replace hf := if_no hf cq13
          refine lv_aload_n hx hb dX11_arc_63 rfl (lv_at hl 1 rfl) ?_
          refine va_get (D := (dC, dI)) (ci := 11) (v := .int v0_arcs) (C := RX11) (T := TX11) (N := 71) hx hb hts inlX11 hown hK hP 0 rfl rfl 3 (by decide) w2_ (fun _ h9 => h9) rfl dX11_arc_64 ?_
          have hf1 := Option.some.inj hf
          subst hf1
          have hP9 := hP.sub (ws' := (wX11_arc h0 h1 kc1 V0 0 v0_arcs v0_known v0_wayState c1)) [0, 1] rfl
          have hD9 := hD.sub (ws' := (wX11_arc h0 h1 kc1 V0 0 v0_arcs v0_known v0_wayState c1)) [0, 1] (by decide) rfl
          exact W.iret (v := v0_arcs) hx hb hr (fun t ht hW => ⟨⟨v0_arcs, (0, v0_arcs, v0_known, v0_wayState, c1), rfl, ⟨rfl, rfl⟩, by rw [ht]; exact hP9, va_K.moved hW.alike hK, hD9⟩, hS.F ht⟩) hS.2.2 dX11_arc_67
      · replace hf := if_at hf cq6
        exact (hG _ _ _ _ _).mp (J36 0 v0_arcs v0_known v0_wayState c1 H locs ls (hP.sub [0, 1] rfl) (hD.sub [0, 1] (by decide) rfl) hS (lv_sub hl [0] rfl) hf)
set_option maxHeartbeats 4000000 in
set_option maxRecDepth 100000 in
theorem mX11_at (l : Launch) (dC : Nat → ClassId) (dI : Nat → Nat → Nat) (sz : Nat) (base : Nat × Nat × Nat) (a0 : Int32) (a1 : Int32) (a2 : Int32) (o : Int32 × Unit) (hf : fX11_at a0 a1 a2 = some o) : Met l yX11_at (.code yX11_at cX11_at 3 (some .int) :: wsL_law) ({ frames := 0, cells := 0, slots := 0, locals := 0 }) (cPre (dC, dI) vwCl [.int a0, .int a1, .int a2] sz base [] []) (va_Qi (fun r u => r = o.1 ∧ u = o.2) (fun (u : Unit) t => cPost (dC, dI) vwCl (va_A [] sz) [] [] t) (va_A [] sz)) 0 0 (va_A [] sz) := by
  refine Met.ofW (cc := cX11_at) (maxL := 3) (ret := (some .int)) (by decide) rfl ?_
  intro p e s m args below meth c s₁ B hml hv
  obtain ⟨rfl, hsz, hP, hK, hD0, hE⟩ := hv
  have hx := B.exec
  have hb := B.bytes
  have hr := B.returns
  have hts : ∀ w ∈ wsL_law, _ := fun w h => atoms_spec (ws := .code yX11_at cX11_at 3 (some .int) :: wsL_law) B.pre w (List.mem_cons_of_mem _ h)
  have hown : s.vm.findClass RX11 = some m.cls := findClass_of_methodNamed B.named
  have hlocks := B.notSynchronized
  skip
  subst hsz
  have hD := hD0.self (sz := s.heap.size)
  generalize hAe : va_A [] s.heap.size = A at hD ⊢
  have hA : ∀ q : Nat, s.heap.size ≤ q → A q := fun q h => by rw [← hAe]; exact Or.inr h
  have hAB : ∀ q : Nat, A q → base.1 ≤ q := fun q h => by rw [← hAe] at h; exact h.elim (fun ⟨k, e, hk⟩ => hD0.2 k _ hk) (fun hk => Nat.le_trans hE.1 hk)
  have hS : va_S A s.heap s.heap [] := va_S.rf
  have hl := lv_entry ([.int a0, .int a1, .int a2]) (n := 3) (Nat.le_of_ble_eq_true rfl)
  rw [lg_entry_eq]
  generalize (lg_sl ([.int a0, .int a1, .int a2]) ++ List.replicate (3 - (lg_sl ([.int a0, .int a1, .int a2])).length) Slot.unset).toArray = ls at hl ⊢
  have hl : lv_has ls 3 [(0, .int a0), (1, .int a1), (2, .int a2)] := hl
  have hP : va_P (dC, dI) vwCl [] s.heap := hP
  obtain ⟨H, hH⟩ : ∃ H, H = s.heap := ⟨_, rfl⟩
  have hS : va_S A s.heap H [] := by rw [hH]; exact hS
  rw [← hH] at hP ⊢
  generalize ([] : List Loc) = locs at hS ⊢
  unfold fX11_at at hf
  refine lv_sipush (v := 160) hx hb dX11_at_0 (by decide +kernel) ?_
  refine lv_iload_n hx hb dX11_at_3 rfl (lv_at hl 0 rfl) ?_
  refine lv_imul hx hb dX11_at_4 ?_
  refine lv_topi (fun x1 e1 => ?_)
  replace hf := nm_at hf e1
  refine lv_iconst (v := 4) hx hb dX11_at_5 (by decide +kernel) ?_
  refine lv_iload_n hx hb dX11_at_6 rfl (lv_at hl 1 rfl) ?_
  refine lv_imul hx hb dX11_at_7 ?_
  refine lv_topi (fun x2 e2 => ?_)
  replace hf := nm_at hf e2
  refine lv_iadd hx hb dX11_at_8 ?_
  refine lv_topi (fun x3 e3 => ?_)
  replace hf := nm_at hf e3
  refine lv_iload_n hx hb dX11_at_9 rfl (lv_at hl 2 rfl) ?_
  refine lv_iadd hx hb dX11_at_10 ?_
  refine lv_topi (fun x4 e4 => ?_)
  replace hf := nm_at hf e4
  have hf1 := Option.some.inj hf
  subst hf1
  have hP9 := hP.sub (ws' := []) [] rfl
  have hD9 := hD.sub (ws' := []) [] (by decide) rfl
  exact W.iret (v := x4) hx hb hr (fun t ht hW => ⟨⟨x4, (), rfl, ⟨rfl, rfl⟩, by rw [ht]; exact hP9, va_K.moved hW.alike hK, hD9⟩, hS.F ht⟩) hS.2.2 dX11_at_11
abbrev wX11_begin (h0 h1 h2 h3 h4 h5 h6 h7 h8 h9 h10 h11 h12 h13 : Nat) (kc1 kc2 kc3 kc4 kc5 kc6 kc7 kc8 kc9 kc10 kc11 kc12 kc13 : ClassId) (V0 : Nat → Value) (v0_from : Int32) (v0_statements : Int32) (v0_open : Int32) (c1 : Nat → Int32) (c2 : Nat → Int32) (c3 : Nat → Int32) (c4 : Nat → Int32) (c5 : Nat → Int32) (c6 : Nat → Int32) (c7 : Nat → Int32) (c8 : Nat → Int32) (c9 : Nat → Int32) (c10 : Nat → Int32) (c11 : Nat → Int32) (c12 : Nat → Int32) (c13 : Nat → Int32) : va_W := [(h0, .inr (11, [V0 0, V0 1, V0 2, V0 3, V0 4, V0 5, V0 6, V0 7, V0 8, V0 9, V0 10, V0 11, V0 12, V0 13, V0 14, V0 15, V0 16, V0 17, V0 18, V0 19, V0 20, .int v0_from, V0 22, V0 23, V0 24, V0 25, V0 26, V0 27, V0 28, V0 29, .int v0_statements, V0 31, V0 32, V0 33, V0 34, .ref h12, .ref h2, .ref h3, .ref h4, V0 39, .ref h7, V0 41, .ref h5, .ref h6, .ref h8, .ref h9, V0 46, V0 47, V0 48, V0 49, V0 50, .ref h13, .ref h11, .ref h10, .int v0_open, .ref h1, V0 56, V0 57, V0 58, V0 59, V0 60, V0 61, V0 62, V0 63, V0 64, V0 65, V0 66, V0 67, V0 68, V0 69, V0 70])), (h1, .inl (kc1, 12, .inl c1)), (h2, .inl (kc2, 40, .inl c2)), (h3, .inl (kc3, 40, .inl c3)), (h4, .inl (kc4, 40, .inl c4)), (h5, .inl (kc5, 40, .inl c5)), (h6, .inl (kc6, 40, .inl c6)), (h7, .inl (kc7, 80, .inl c7)), (h8, .inl (kc8, 40, .inl c8)), (h9, .inl (kc9, 40, .inl c9)), (h10, .inl (kc10, 90, .inl c10)), (h11, .inl (kc11, 90, .inl c11)), (h12, .inl (kc12, 6, .inl c12)), (h13, .inl (kc13, 90, .inl c13))]
set_option maxHeartbeats 4000000 in
set_option maxRecDepth 100000 in
theorem mX11_begin (l : Launch) (dC : Nat → ClassId) (dI : Nat → Nat → Nat) (h0 h1 h2 h3 h4 h5 h6 h7 h8 h9 h10 h11 h12 h13 : Nat) (kc1 kc2 kc3 kc4 kc5 kc6 kc7 kc8 kc9 kc10 kc11 kc12 kc13 : ClassId) (sz : Nat) (base : Nat × Nat × Nat) (a0 : Int32) (a1 : Int32) (v0_from : Int32) (v0_statements : Int32) (v0_open : Int32) (c1 : Nat → Int32) (c2 : Nat → Int32) (c3 : Nat → Int32) (c4 : Nat → Int32) (c5 : Nat → Int32) (c6 : Nat → Int32) (c7 : Nat → Int32) (c8 : Nat → Int32) (c9 : Nat → Int32) (c10 : Nat → Int32) (c11 : Nat → Int32) (c12 : Nat → Int32) (c13 : Nat → Int32) (V0 : Nat → Value) (o : Int32 × Int32 × (Nat → Int32) × (Nat → Int32) × (Nat → Int32) × (Nat → Int32) × (Nat → Int32) × (Nat → Int32) × (Nat → Int32) × (Nat → Int32) × (Nat → Int32) × (Nat → Int32)) (hf : fX11_begin a0 a1 v0_from v0_statements v0_open c1 c2 c3 c4 c5 c6 c7 c8 c9 c10 c11 c12 c13 = some o) : Met l yX11_begin (.code yX11_begin cX11_begin 5 (some .int) :: wsL_law) ({ frames := 0, cells := 0, slots := 0, locals := 0 }) (cPre (dC, dI) vwCl [.ref h0, .int a0, .int a1] sz base (wX11_begin h0 h1 h2 h3 h4 h5 h6 h7 h8 h9 h10 h11 h12 h13 kc1 kc2 kc3 kc4 kc5 kc6 kc7 kc8 kc9 kc10 kc11 kc12 kc13 V0 v0_from v0_statements v0_open c1 c2 c3 c4 c5 c6 c7 c8 c9 c10 c11 c12 c13) [(kc1, .int), (kc2, .int), (kc3, .int), (kc4, .int), (kc5, .int), (kc6, .int), (kc7, .int), (kc8, .int), (kc9, .int), (kc10, .int), (kc11, .int), (kc12, .int), (kc13, .int)]) (va_Qi (fun r u => r = o.1 ∧ u = o.2) (fun (u : Int32 × (Nat → Int32) × (Nat → Int32) × (Nat → Int32) × (Nat → Int32) × (Nat → Int32) × (Nat → Int32) × (Nat → Int32) × (Nat → Int32) × (Nat → Int32) × (Nat → Int32)) t => cPost (dC, dI) vwCl (va_A (wX11_begin h0 h1 h2 h3 h4 h5 h6 h7 h8 h9 h10 h11 h12 h13 kc1 kc2 kc3 kc4 kc5 kc6 kc7 kc8 kc9 kc10 kc11 kc12 kc13 V0 v0_from v0_statements v0_open c1 c2 c3 c4 c5 c6 c7 c8 c9 c10 c11 c12 c13) sz) (wX11_begin h0 h1 h2 h3 h4 h5 h6 h7 h8 h9 h10 h11 h12 h13 kc1 kc2 kc3 kc4 kc5 kc6 kc7 kc8 kc9 kc10 kc11 kc12 kc13 V0 v0_from u.1 v0_open c1 u.2.1 u.2.2.1 u.2.2.2.1 u.2.2.2.2.1 u.2.2.2.2.2.1 u.2.2.2.2.2.2.1 u.2.2.2.2.2.2.2.1 u.2.2.2.2.2.2.2.2.1 u.2.2.2.2.2.2.2.2.2.1 c11 u.2.2.2.2.2.2.2.2.2.2 c13) [(kc1, .int), (kc2, .int), (kc3, .int), (kc4, .int), (kc5, .int), (kc6, .int), (kc7, .int), (kc8, .int), (kc9, .int), (kc10, .int), (kc11, .int), (kc12, .int), (kc13, .int)] t) (va_A (wX11_begin h0 h1 h2 h3 h4 h5 h6 h7 h8 h9 h10 h11 h12 h13 kc1 kc2 kc3 kc4 kc5 kc6 kc7 kc8 kc9 kc10 kc11 kc12 kc13 V0 v0_from v0_statements v0_open c1 c2 c3 c4 c5 c6 c7 c8 c9 c10 c11 c12 c13) sz)) 0 0 (va_A (wX11_begin h0 h1 h2 h3 h4 h5 h6 h7 h8 h9 h10 h11 h12 h13 kc1 kc2 kc3 kc4 kc5 kc6 kc7 kc8 kc9 kc10 kc11 kc12 kc13 V0 v0_from v0_statements v0_open c1 c2 c3 c4 c5 c6 c7 c8 c9 c10 c11 c12 c13) sz) := by
  refine Met.ofW (cc := cX11_begin) (maxL := 5) (ret := (some .int)) (by decide) rfl ?_
  intro p e s m args below meth c s₁ B hml hv
  obtain ⟨rfl, hsz, hP, hK, hD0, hE⟩ := hv
  have hx := B.exec
  have hb := B.bytes
  have hr := B.returns
  have hts : ∀ w ∈ wsL_law, _ := fun w h => atoms_spec (ws := .code yX11_begin cX11_begin 5 (some .int) :: wsL_law) B.pre w (List.mem_cons_of_mem _ h)
  have hown : s.vm.findClass RX11 = some m.cls := findClass_of_methodNamed B.named
  have hlocks := B.notSynchronized
  have w0_ := hts _ q116
  have w1_ := hts _ q796
  have w2_ := hts _ q117
  have w3_ := hts _ q835
  have w4_ := hts _ q101
  have w5_ := hts _ q102
  have w6_ := hts _ q801
  have w7_ := hts _ q103
  have w8_ := hts _ q107
  have w9_ := hts _ q108
  have w10_ := hts _ q105
  have w11_ := hts _ q109
  have w12_ := hts _ q110
  have w13_ := hts _ q115
  have w14_ := hts _ q114
  have w15_ := hts _ q100
  subst hsz
  have hD := hD0.self (sz := s.heap.size)
  generalize hAe : va_A (wX11_begin h0 h1 h2 h3 h4 h5 h6 h7 h8 h9 h10 h11 h12 h13 kc1 kc2 kc3 kc4 kc5 kc6 kc7 kc8 kc9 kc10 kc11 kc12 kc13 V0 v0_from v0_statements v0_open c1 c2 c3 c4 c5 c6 c7 c8 c9 c10 c11 c12 c13) s.heap.size = A at hD ⊢
  have hA : ∀ q : Nat, s.heap.size ≤ q → A q := fun q h => by rw [← hAe]; exact Or.inr h
  have hAB : ∀ q : Nat, A q → base.1 ≤ q := fun q h => by rw [← hAe] at h; exact h.elim (fun ⟨k, e, hk⟩ => hD0.2 k _ hk) (fun hk => Nat.le_trans hE.1 hk)
  have hS : va_S A s.heap s.heap [] := va_S.rf
  have hl := lv_entry ([.ref h0, .int a0, .int a1]) (n := 5) (Nat.le_of_ble_eq_true rfl)
  rw [lg_entry_eq]
  generalize (lg_sl ([.ref h0, .int a0, .int a1]) ++ List.replicate (5 - (lg_sl ([.ref h0, .int a0, .int a1])).length) Slot.unset).toArray = ls at hl ⊢
  have hl : lv_has ls 5 [(0, .ref h0), (1, .int a0), (2, .int a1)] := hl
  have hP : va_P (dC, dI) vwCl (wX11_begin h0 h1 h2 h3 h4 h5 h6 h7 h8 h9 h10 h11 h12 h13 kc1 kc2 kc3 kc4 kc5 kc6 kc7 kc8 kc9 kc10 kc11 kc12 kc13 V0 v0_from v0_statements v0_open c1 c2 c3 c4 c5 c6 c7 c8 c9 c10 c11 c12 c13) s.heap := hP
  refine gl_intro (fun G hG => ?_)
  have J180 : ∀ (y3 : Int32) (y4 : Int32) (v0_statements : Int32) (c2 : (Nat → Int32)) (c3 : (Nat → Int32)) (c4 : (Nat → Int32)) (c5 : (Nat → Int32)) (c6 : (Nat → Int32)) (c7 : (Nat → Int32)) (c8 : (Nat → Int32)) (c9 : (Nat → Int32)) (c10 : (Nat → Int32)) (c12 : (Nat → Int32)) (H : Heap) (locs : List Loc) (ls : Array Slot), va_P (dC, dI) vwCl (wX11_begin h0 h1 h2 h3 h4 h5 h6 h7 h8 h9 h10 h11 h12 h13 kc1 kc2 kc3 kc4 kc5 kc6 kc7 kc8 kc9 kc10 kc11 kc12 kc13 V0 v0_from v0_statements v0_open c1 c2 c3 c4 c5 c6 c7 c8 c9 c10 c11 c12 c13) H → va_D A (wX11_begin h0 h1 h2 h3 h4 h5 h6 h7 h8 h9 h10 h11 h12 h13 kc1 kc2 kc3 kc4 kc5 kc6 kc7 kc8 kc9 kc10 kc11 kc12 kc13 V0 v0_from v0_statements v0_open c1 c2 c3 c4 c5 c6 c7 c8 c9 c10 c11 c12 c13) → va_S A s.heap H locs → lv_has ls 5 [(0, .ref h0), (3, .int y3), (4, .int y4)] → fX11_begin_p180 v0_from v0_open c1 c11 c13  y3 y4 v0_statements c2 c3 c4 c5 c6 c7 c8 c9 c10 c12 = some o → G 0 0 H locs (F0 m 180 ls []) := by
    intro  y3 y4 v0_statements c2 c3 c4 c5 c6 c7 c8 c9 c10 c12 H locs ls hP hD hS hl hf
    refine (hG _ _ _ _ _).mpr ?_
    unfold fX11_begin_p180 at hf
    refine lv_aload_n hx hb dX11_begin_180 rfl (lv_at hl 0 rfl) ?_
    refine va_get (D := (dC, dI)) (ci := 11) (v := .ref h10) (C := RX11) (T := TX11) (N := 71) hx hb hts inlX11 hown hK hP 0 rfl rfl 53 (by decide) w0_ (fun _ h9 => h9) rfl dX11_begin_181 ?_
    refine lv_iload hx hb dX11_begin_184 (lv_at hl 2 rfl) ?_
    refine lv_iload_n hx hb dX11_begin_186 rfl (lv_at hl 1 rfl) ?_
    have b1 := bd_in hf
    replace hf := bd_k hf
    obtain ⟨c1x, e1⟩ : ∃ y, y = upd c10 y4.toNatClampNeg y3 := ⟨_, rfl⟩
    replace hf := nm_at hf e1
    refine va_iast hx hb hK hP hD hS 10 9 rfl rfl b1 dX11_begin_187 (fun H locs hP hD hS => ?_)
    have hP : va_P (dC, dI) vwCl (wX11_begin h0 h1 h2 h3 h4 h5 h6 h7 h8 h9 h10 h11 h12 h13 kc1 kc2 kc3 kc4 kc5 kc6 kc7 kc8 kc9 kc10 kc11 kc12 kc13 V0 v0_from v0_statements v0_open c1 c2 c3 c4 c5 c6 c7 c8 c9 c1x c11 c12 c13) H := by rw [e1]; exact hP
    have hD : va_D A (wX11_begin h0 h1 h2 h3 h4 h5 h6 h7 h8 h9 h10 h11 h12 h13 kc1 kc2 kc3 kc4 kc5 kc6 kc7 kc8 kc9 kc10 kc11 kc12 kc13 V0 v0_from v0_statements v0_open c1 c2 c3 c4 c5 c6 c7 c8 c9 c1x c11 c12 c13) := by rw [e1]; exact hD
    refine lv_iload_n hx hb dX11_begin_188 rfl (lv_at hl 1 rfl) ?_
    have hf1 := Option.some.inj hf
    subst hf1
    have hP9 := hP.sub (ws' := (wX11_begin h0 h1 h2 h3 h4 h5 h6 h7 h8 h9 h10 h11 h12 h13 kc1 kc2 kc3 kc4 kc5 kc6 kc7 kc8 kc9 kc10 kc11 kc12 kc13 V0 v0_from v0_statements v0_open c1 c2 c3 c4 c5 c6 c7 c8 c9 c1x c11 c12 c13)) [0, 1, 2, 3, 4, 5, 6, 7, 8, 9, 10, 11, 12, 13] rfl
    have hD9 := hD.sub (ws' := (wX11_begin h0 h1 h2 h3 h4 h5 h6 h7 h8 h9 h10 h11 h12 h13 kc1 kc2 kc3 kc4 kc5 kc6 kc7 kc8 kc9 kc10 kc11 kc12 kc13 V0 v0_from v0_statements v0_open c1 c2 c3 c4 c5 c6 c7 c8 c9 c1x c11 c12 c13)) [0, 1, 2, 3, 4, 5, 6, 7, 8, 9, 10, 11, 12, 13] (by decide) rfl
    exact W.iret (v := y3) hx hb hr (fun t ht hW => ⟨⟨y3, (v0_statements, c2, c3, c4, c5, c6, c7, c8, c9, c1x, c12), rfl, ⟨rfl, rfl⟩, by rw [ht]; exact hP9, va_K.moved hW.alike hK, hD9⟩, hS.F ht⟩) hS.2.2 dX11_begin_189
  have J177 : ∀ (y3 : Int32) (y4 : Int32) (z0 : Int32) (z1 : Int32) (v0_statements : Int32) (c2 : (Nat → Int32)) (c3 : (Nat → Int32)) (c4 : (Nat → Int32)) (c5 : (Nat → Int32)) (c6 : (Nat → Int32)) (c7 : (Nat → Int32)) (c8 : (Nat → Int32)) (c9 : (Nat → Int32)) (c10 : (Nat → Int32)) (c12 : (Nat → Int32)) (H : Heap) (locs : List Loc) (ls : Array Slot), va_P (dC, dI) vwCl (wX11_begin h0 h1 h2 h3 h4 h5 h6 h7 h8 h9 h10 h11 h12 h13 kc1 kc2 kc3 kc4 kc5 kc6 kc7 kc8 kc9 kc10 kc11 kc12 kc13 V0 v0_from v0_statements v0_open c1 c2 c3 c4 c5 c6 c7 c8 c9 c10 c11 c12 c13) H → va_D A (wX11_begin h0 h1 h2 h3 h4 h5 h6 h7 h8 h9 h10 h11 h12 h13 kc1 kc2 kc3 kc4 kc5 kc6 kc7 kc8 kc9 kc10 kc11 kc12 kc13 V0 v0_from v0_statements v0_open c1 c2 c3 c4 c5 c6 c7 c8 c9 c10 c11 c12 c13) → va_S A s.heap H locs → lv_has ls 5 [(0, .ref h0), (3, .int y3), (4, .int y4)] → fX11_begin_p177 v0_from v0_open c1 c11 c13  y3 y4 z0 z1 v0_statements c2 c3 c4 c5 c6 c7 c8 c9 c10 c12 = some o → G 0 0 H locs (F0 m 177 ls [.int z0, .int z1, .ref h7]) := by
    intro  y3 y4 z0 z1 v0_statements c2 c3 c4 c5 c6 c7 c8 c9 c10 c12 H locs ls hP hD hS hl hf
    refine (hG _ _ _ _ _).mpr ?_
    unfold fX11_begin_p177 at hf
    refine lv_iadd hx hb dX11_begin_177 ?_
    refine lv_topi (fun x2 e2 => ?_)
    replace hf := nm_at hf e2
    refine lv_iload_n hx hb dX11_begin_178 rfl (lv_at hl 1 rfl) ?_
    have b3 := bd_in hf
    replace hf := bd_k hf
    obtain ⟨c3x, e3⟩ : ∃ y, y = upd c7 x2.toNatClampNeg y3 := ⟨_, rfl⟩
    replace hf := nm_at hf e3
    refine va_iast hx hb hK hP hD hS 7 6 rfl rfl b3 dX11_begin_179 (fun H locs hP hD hS => ?_)
    have hP : va_P (dC, dI) vwCl (wX11_begin h0 h1 h2 h3 h4 h5 h6 h7 h8 h9 h10 h11 h12 h13 kc1 kc2 kc3 kc4 kc5 kc6 kc7 kc8 kc9 kc10 kc11 kc12 kc13 V0 v0_from v0_statements v0_open c1 c2 c3 c4 c5 c6 c3x c8 c9 c10 c11 c12 c13) H := by rw [e3]; exact hP
    have hD : va_D A (wX11_begin h0 h1 h2 h3 h4 h5 h6 h7 h8 h9 h10 h11 h12 h13 kc1 kc2 kc3 kc4 kc5 kc6 kc7 kc8 kc9 kc10 kc11 kc12 kc13 V0 v0_from v0_statements v0_open c1 c2 c3 c4 c5 c6 c3x c8 c9 c10 c11 c12 c13) := by rw [e3]; exact hD
    exact (hG _ _ _ _ _).mp (J180 y3 y4 v0_statements c2 c3 c4 c5 c6 c3x c8 c9 c10 c12 H locs ls (hP.sub [0, 1, 2, 3, 4, 5, 6, 7, 8, 9, 10, 11, 12, 13] rfl) (hD.sub [0, 1, 2, 3, 4, 5, 6, 7, 8, 9, 10, 11, 12, 13] (by decide) rfl) hS (lv_sub hl [0, 1, 2] rfl) hf)
  refine (hG _ _ _ _ _).mpr ?_
  obtain ⟨H, hH⟩ : ∃ H, H = s.heap := ⟨_, rfl⟩
  have hS : va_S A s.heap H [] := by rw [hH]; exact hS
  rw [← hH] at hP ⊢
  generalize ([] : List Loc) = locs at hS ⊢
  unfold fX11_begin at hf
  refine lv_aload_n hx hb dX11_begin_0 rfl (lv_at hl 0 rfl) ?_
  refine va_get (D := (dC, dI)) (ci := 11) (v := .int v0_statements) (C := RX11) (T := TX11) (N := 71) hx hb hts inlX11 hown hK hP 0 rfl rfl 30 (by decide) w1_ (fun _ h9 => h9) rfl dX11_begin_1 ?_
  refine lv_istore_n (lv' := [(3, .int v0_statements), (0, .ref h0), (1, .int a0), (2, .int a1)]) hx hb dX11_begin_4 rfl hl (by decide) rfl (fun ls hl => ?_)
  refine lv_aload_n hx hb dX11_begin_5 rfl (lv_at hl 1 rfl) ?_
  refine lv_dup hx hb dX11_begin_6 rfl ?_
  refine va_get (D := (dC, dI)) (ci := 11) (v := .int v0_statements) (C := RX11) (T := TX11) (N := 71) hx hb hts inlX11 hown hK hP 0 rfl rfl 30 (by decide) w1_ (fun _ h9 => h9) rfl dX11_begin_7 ?_
  refine lv_iconst (v := 1) hx hb dX11_begin_10 (by decide +kernel) ?_
  refine lv_iadd hx hb dX11_begin_11 ?_
  refine lv_topi (fun x4 e4 => ?_)
  replace hf := nm_at hf e4
  refine va_put (D := (dC, dI)) (ci := 11) (v := .int x4) (ty := .int) (C := RX11) (T := TX11) (N := 71) hx hb hts inlX11 tyX11 tyX11_ok nmX11 hown hK hP hD hS 0 rfl rfl 30 (by decide) w1_ (fun _ h9 => h9) rfl (by decide +kernel) rfl rfl (Nat.le_of_ble_eq_true rfl) dX11_begin_12 (fun H locs hP hD hS => ?_)
  have hP : va_P (dC, dI) vwCl (wX11_begin h0 h1 h2 h3 h4 h5 h6 h7 h8 h9 h10 h11 h12 h13 kc1 kc2 kc3 kc4 kc5 kc6 kc7 kc8 kc9 kc10 kc11 kc12 kc13 V0 v0_from x4 v0_open c1 c2 c3 c4 c5 c6 c7 c8 c9 c10 c11 c12 c13) H := hP
  have hD : va_D A (wX11_begin h0 h1 h2 h3 h4 h5 h6 h7 h8 h9 h10 h11 h12 h13 kc1 kc2 kc3 kc4 kc5 kc6 kc7 kc8 kc9 kc10 kc11 kc12 kc13 V0 v0_from x4 v0_open c1 c2 c3 c4 c5 c6 c7 c8 c9 c10 c11 c12 c13) := hD
  refine lv_aload_n hx hb dX11_begin_15 rfl (lv_at hl 1 rfl) ?_
  refine va_get (D := (dC, dI)) (ci := 11) (v := .ref h1) (C := RX11) (T := TX11) (N := 71) hx hb hts inlX11 hown hK hP 0 rfl rfl 55 (by decide) w2_ (fun _ h9 => h9) rfl dX11_begin_16 ?_
  refine lv_aload_n hx hb dX11_begin_19 rfl (lv_at hl 1 rfl) ?_
  refine va_get (D := (dC, dI)) (ci := 11) (v := .int v0_open) (C := RX11) (T := TX11) (N := 71) hx hb hts inlX11 hown hK hP 0 rfl rfl 54 (by decide) w3_ (fun _ h9 => h9) rfl dX11_begin_20 ?_
  refine lv_iconst (v := 1) hx hb dX11_begin_23 (by decide +kernel) ?_
  refine lv_isub hx hb dX11_begin_24 ?_
  refine lv_topi (fun x5 e5 => ?_)
  replace hf := nm_at hf e5
  have b6 := bd_in hf
  replace hf := bd_k hf
  refine va_iald hx hb hK hP 1 0 rfl rfl b6 dX11_begin_25 ?_
  refine lv_topi (fun x7 e7 => ?_)
  replace hf := nm_at hf e7
  refine lv_istore (lv' := [(4, .int x7), (3, .int v0_statements), (0, .ref h0), (1, .int a0), (2, .int a1)]) hx hb dX11_begin_26 hl (by decide) rfl (fun ls hl => ?_)
  refine lv_aload_n hx hb dX11_begin_28 rfl (lv_at hl 2 rfl) ?_
  refine va_get (D := (dC, dI)) (ci := 11) (v := .ref h2) (C := RX11) (T := TX11) (N := 71) hx hb hts inlX11 hown hK hP 0 rfl rfl 36 (by decide) w4_ (fun _ h9 => h9) rfl dX11_begin_29 ?_
  refine lv_iload_n hx hb dX11_begin_32 rfl (lv_at hl 1 rfl) ?_
  refine lv_iload_n hx hb dX11_begin_33 rfl (lv_at hl 4 rfl) ?_
  have b8 := bd_in hf
  replace hf := bd_k hf
  obtain ⟨c8x, e8⟩ : ∃ y, y = upd c2 v0_statements.toNatClampNeg a1 := ⟨_, rfl⟩
  replace hf := nm_at hf e8
  refine va_iast hx hb hK hP hD hS 2 1 rfl rfl b8 dX11_begin_34 (fun H locs hP hD hS => ?_)
  have hP : va_P (dC, dI) vwCl (wX11_begin h0 h1 h2 h3 h4 h5 h6 h7 h8 h9 h10 h11 h12 h13 kc1 kc2 kc3 kc4 kc5 kc6 kc7 kc8 kc9 kc10 kc11 kc12 kc13 V0 v0_from x4 v0_open c1 c8x c3 c4 c5 c6 c7 c8 c9 c10 c11 c12 c13) H := by rw [e8]; exact hP
  have hD : va_D A (wX11_begin h0 h1 h2 h3 h4 h5 h6 h7 h8 h9 h10 h11 h12 h13 kc1 kc2 kc3 kc4 kc5 kc6 kc7 kc8 kc9 kc10 kc11 kc12 kc13 V0 v0_from x4 v0_open c1 c8x c3 c4 c5 c6 c7 c8 c9 c10 c11 c12 c13) := by rw [e8]; exact hD
  refine lv_aload_n hx hb dX11_begin_35 rfl (lv_at hl 2 rfl) ?_
  refine va_get (D := (dC, dI)) (ci := 11) (v := .ref h3) (C := RX11) (T := TX11) (N := 71) hx hb hts inlX11 hown hK hP 0 rfl rfl 37 (by decide) w5_ (fun _ h9 => h9) rfl dX11_begin_36 ?_
  refine lv_iload_n hx hb dX11_begin_39 rfl (lv_at hl 1 rfl) ?_
  refine lv_aload_n hx hb dX11_begin_40 rfl (lv_at hl 2 rfl) ?_
  refine va_get (D := (dC, dI)) (ci := 11) (v := .int v0_from) (C := RX11) (T := TX11) (N := 71) hx hb hts inlX11 hown hK hP 0 rfl rfl 21 (by decide) w6_ (fun _ h9 => h9) rfl dX11_begin_41 ?_
  have b9 := bd_in hf
  replace hf := bd_k hf
  obtain ⟨c9x, e9⟩ : ∃ y, y = upd c3 v0_statements.toNatClampNeg v0_from := ⟨_, rfl⟩
  replace hf := nm_at hf e9
  refine va_iast hx hb hK hP hD hS 3 2 rfl rfl b9 dX11_begin_44 (fun H locs hP hD hS => ?_)
  have hP : va_P (dC, dI) vwCl (wX11_begin h0 h1 h2 h3 h4 h5 h6 h7 h8 h9 h10 h11 h12 h13 kc1 kc2 kc3 kc4 kc5 kc6 kc7 kc8 kc9 kc10 kc11 kc12 kc13 V0 v0_from x4 v0_open c1 c8x c9x c4 c5 c6 c7 c8 c9 c10 c11 c12 c13) H := by rw [e9]; exact hP
  have hD : va_D A (wX11_begin h0 h1 h2 h3 h4 h5 h6 h7 h8 h9 h10 h11 h12 h13 kc1 kc2 kc3 kc4 kc5 kc6 kc7 kc8 kc9 kc10 kc11 kc12 kc13 V0 v0_from x4 v0_open c1 c8x c9x c4 c5 c6 c7 c8 c9 c10 c11 c12 c13) := by rw [e9]; exact hD
  refine lv_aload_n hx hb dX11_begin_45 rfl (lv_at hl 2 rfl) ?_
  refine va_get (D := (dC, dI)) (ci := 11) (v := .ref h4) (C := RX11) (T := TX11) (N := 71) hx hb hts inlX11 hown hK hP 0 rfl rfl 38 (by decide) w7_ (fun _ h9 => h9) rfl dX11_begin_46 ?_
  refine lv_iload_n hx hb dX11_begin_49 rfl (lv_at hl 1 rfl) ?_
  refine lv_iload_n hx hb dX11_begin_50 rfl (lv_at hl 3 rfl) ?_
  have b10 := bd_in hf
  replace hf := bd_k hf
  obtain ⟨c10x, e10⟩ : ∃ y, y = upd c4 v0_statements.toNatClampNeg a0 := ⟨_, rfl⟩
  replace hf := nm_at hf e10
  refine va_iast hx hb hK hP hD hS 4 3 rfl rfl b10 dX11_begin_51 (fun H locs hP hD hS => ?_)
  have hP : va_P (dC, dI) vwCl (wX11_begin h0 h1 h2 h3 h4 h5 h6 h7 h8 h9 h10 h11 h12 h13 kc1 kc2 kc3 kc4 kc5 kc6 kc7 kc8 kc9 kc10 kc11 kc12 kc13 V0 v0_from x4 v0_open c1 c8x c9x c10x c5 c6 c7 c8 c9 c10 c11 c12 c13) H := by rw [e10]; exact hP
  have hD : va_D A (wX11_begin h0 h1 h2 h3 h4 h5 h6 h7 h8 h9 h10 h11 h12 h13 kc1 kc2 kc3 kc4 kc5 kc6 kc7 kc8 kc9 kc10 kc11 kc12 kc13 V0 v0_from x4 v0_open c1 c8x c9x c10x c5 c6 c7 c8 c9 c10 c11 c12 c13) := by rw [e10]; exact hD
  refine lv_aload_n hx hb dX11_begin_52 rfl (lv_at hl 2 rfl) ?_
  refine va_get (D := (dC, dI)) (ci := 11) (v := .ref h5) (C := RX11) (T := TX11) (N := 71) hx hb hts inlX11 hown hK hP 0 rfl rfl 42 (by decide) w8_ (fun _ h9 => h9) rfl dX11_begin_53 ?_
  refine lv_iload_n hx hb dX11_begin_56 rfl (lv_at hl 1 rfl) ?_
  refine lv_iconst (v := (-1)) hx hb dX11_begin_57 (by decide +kernel) ?_
  have b11 := bd_in hf
  replace hf := bd_k hf
  obtain ⟨c11x, e11⟩ : ∃ y, y = upd c5 v0_statements.toNatClampNeg (-1) := ⟨_, rfl⟩
  replace hf := nm_at hf e11
  refine va_iast hx hb hK hP hD hS 5 4 rfl rfl b11 dX11_begin_58 (fun H locs hP hD hS => ?_)
  have hP : va_P (dC, dI) vwCl (wX11_begin h0 h1 h2 h3 h4 h5 h6 h7 h8 h9 h10 h11 h12 h13 kc1 kc2 kc3 kc4 kc5 kc6 kc7 kc8 kc9 kc10 kc11 kc12 kc13 V0 v0_from x4 v0_open c1 c8x c9x c10x c11x c6 c7 c8 c9 c10 c11 c12 c13) H := by rw [e11]; exact hP
  have hD : va_D A (wX11_begin h0 h1 h2 h3 h4 h5 h6 h7 h8 h9 h10 h11 h12 h13 kc1 kc2 kc3 kc4 kc5 kc6 kc7 kc8 kc9 kc10 kc11 kc12 kc13 V0 v0_from x4 v0_open c1 c8x c9x c10x c11x c6 c7 c8 c9 c10 c11 c12 c13) := by rw [e11]; exact hD
  refine lv_aload_n hx hb dX11_begin_59 rfl (lv_at hl 2 rfl) ?_
  refine va_get (D := (dC, dI)) (ci := 11) (v := .ref h6) (C := RX11) (T := TX11) (N := 71) hx hb hts inlX11 hown hK hP 0 rfl rfl 43 (by decide) w9_ (fun _ h9 => h9) rfl dX11_begin_60 ?_
  refine lv_iload_n hx hb dX11_begin_63 rfl (lv_at hl 1 rfl) ?_
  refine lv_iload hx hb dX11_begin_64 (lv_at hl 0 rfl) ?_
  have b12 := bd_in hf
  replace hf := bd_k hf
  obtain ⟨c12x, e12⟩ : ∃ y, y = upd c6 v0_statements.toNatClampNeg x7 := ⟨_, rfl⟩
  replace hf := nm_at hf e12
  refine va_iast hx hb hK hP hD hS 6 5 rfl rfl b12 dX11_begin_66 (fun H locs hP hD hS => ?_)
  have hP : va_P (dC, dI) vwCl (wX11_begin h0 h1 h2 h3 h4 h5 h6 h7 h8 h9 h10 h11 h12 h13 kc1 kc2 kc3 kc4 kc5 kc6 kc7 kc8 kc9 kc10 kc11 kc12 kc13 V0 v0_from x4 v0_open c1 c8x c9x c10x c11x c12x c7 c8 c9 c10 c11 c12 c13) H := by rw [e12]; exact hP
  have hD : va_D A (wX11_begin h0 h1 h2 h3 h4 h5 h6 h7 h8 h9 h10 h11 h12 h13 kc1 kc2 kc3 kc4 kc5 kc6 kc7 kc8 kc9 kc10 kc11 kc12 kc13 V0 v0_from x4 v0_open c1 c8x c9x c10x c11x c12x c7 c8 c9 c10 c11 c12 c13) := by rw [e12]; exact hD
  refine lv_aload_n hx hb dX11_begin_67 rfl (lv_at hl 2 rfl) ?_
  refine va_get (D := (dC, dI)) (ci := 11) (v := .ref h7) (C := RX11) (T := TX11) (N := 71) hx hb hts inlX11 hown hK hP 0 rfl rfl 40 (by decide) w10_ (fun _ h9 => h9) rfl dX11_begin_68 ?_
  refine lv_iconst (v := 2) hx hb dX11_begin_71 (by decide +kernel) ?_
  refine lv_iload_n hx hb dX11_begin_72 rfl (lv_at hl 1 rfl) ?_
  refine lv_imul hx hb dX11_begin_73 ?_
  refine lv_topi (fun x13 e13 => ?_)
  replace hf := nm_at hf e13
  refine lv_iconst (v := (-1)) hx hb dX11_begin_74 (by decide +kernel) ?_
  have b14 := bd_in hf
  replace hf := bd_k hf
  obtain ⟨c14x, e14⟩ : ∃ y, y = upd c7 x13.toNatClampNeg (-1) := ⟨_, rfl⟩
  replace hf := nm_at hf e14
  refine va_iast hx hb hK hP hD hS 7 6 rfl rfl b14 dX11_begin_75 (fun H locs hP hD hS => ?_)
  have hP : va_P (dC, dI) vwCl (wX11_begin h0 h1 h2 h3 h4 h5 h6 h7 h8 h9 h10 h11 h12 h13 kc1 kc2 kc3 kc4 kc5 kc6 kc7 kc8 kc9 kc10 kc11 kc12 kc13 V0 v0_from x4 v0_open c1 c8x c9x c10x c11x c12x c14x c8 c9 c10 c11 c12 c13) H := by rw [e14]; exact hP
  have hD : va_D A (wX11_begin h0 h1 h2 h3 h4 h5 h6 h7 h8 h9 h10 h11 h12 h13 kc1 kc2 kc3 kc4 kc5 kc6 kc7 kc8 kc9 kc10 kc11 kc12 kc13 V0 v0_from x4 v0_open c1 c8x c9x c10x c11x c12x c14x c8 c9 c10 c11 c12 c13) := by rw [e14]; exact hD
  refine lv_aload_n hx hb dX11_begin_76 rfl (lv_at hl 2 rfl) ?_
  refine va_get (D := (dC, dI)) (ci := 11) (v := .ref h7) (C := RX11) (T := TX11) (N := 71) hx hb hts inlX11 hown hK hP 0 rfl rfl 40 (by decide) w10_ (fun _ h9 => h9) rfl dX11_begin_77 ?_
  refine lv_iconst (v := 2) hx hb dX11_begin_80 (by decide +kernel) ?_
  refine lv_iload_n hx hb dX11_begin_81 rfl (lv_at hl 1 rfl) ?_
  refine lv_imul hx hb dX11_begin_82 ?_
  refine lv_topi (fun x15 e15 => ?_)
  replace hf := nm_at hf e15
  refine lv_iconst (v := 1) hx hb dX11_begin_83 (by decide +kernel) ?_
  refine lv_iadd hx hb dX11_begin_84 ?_
  refine lv_topi (fun x16 e16 => ?_)
  replace hf := nm_at hf e16
  refine lv_iconst (v := (-1)) hx hb dX11_begin_85 (by decide +kernel) ?_
  have b17 := bd_in hf
  replace hf := bd_k hf
  obtain ⟨c17x, e17⟩ : ∃ y, y = upd c14x x16.toNatClampNeg (-1) := ⟨_, rfl⟩
  replace hf := nm_at hf e17
  refine va_iast hx hb hK hP hD hS 7 6 rfl rfl b17 dX11_begin_86 (fun H locs hP hD hS => ?_)
  have hP : va_P (dC, dI) vwCl (wX11_begin h0 h1 h2 h3 h4 h5 h6 h7 h8 h9 h10 h11 h12 h13 kc1 kc2 kc3 kc4 kc5 kc6 kc7 kc8 kc9 kc10 kc11 kc12 kc13 V0 v0_from x4 v0_open c1 c8x c9x c10x c11x c12x c17x c8 c9 c10 c11 c12 c13) H := by rw [e17]; exact hP
  have hD : va_D A (wX11_begin h0 h1 h2 h3 h4 h5 h6 h7 h8 h9 h10 h11 h12 h13 kc1 kc2 kc3 kc4 kc5 kc6 kc7 kc8 kc9 kc10 kc11 kc12 kc13 V0 v0_from x4 v0_open c1 c8x c9x c10x c11x c12x c17x c8 c9 c10 c11 c12 c13) := by rw [e17]; exact hD
  refine lv_aload_n hx hb dX11_begin_87 rfl (lv_at hl 2 rfl) ?_
  refine va_get (D := (dC, dI)) (ci := 11) (v := .ref h8) (C := RX11) (T := TX11) (N := 71) hx hb hts inlX11 hown hK hP 0 rfl rfl 44 (by decide) w11_ (fun _ h9 => h9) rfl dX11_begin_88 ?_
  refine lv_iload_n hx hb dX11_begin_91 rfl (lv_at hl 1 rfl) ?_
  refine lv_iconst (v := 0) hx hb dX11_begin_92 (by decide +kernel) ?_
  have b18 := bd_in hf
  replace hf := bd_k hf
  obtain ⟨c18x, e18⟩ : ∃ y, y = upd c8 v0_statements.toNatClampNeg 0 := ⟨_, rfl⟩
  replace hf := nm_at hf e18
  refine va_iast hx hb hK hP hD hS 8 7 rfl rfl b18 dX11_begin_93 (fun H locs hP hD hS => ?_)
  have hP : va_P (dC, dI) vwCl (wX11_begin h0 h1 h2 h3 h4 h5 h6 h7 h8 h9 h10 h11 h12 h13 kc1 kc2 kc3 kc4 kc5 kc6 kc7 kc8 kc9 kc10 kc11 kc12 kc13 V0 v0_from x4 v0_open c1 c8x c9x c10x c11x c12x c17x c18x c9 c10 c11 c12 c13) H := by rw [e18]; exact hP
  have hD : va_D A (wX11_begin h0 h1 h2 h3 h4 h5 h6 h7 h8 h9 h10 h11 h12 h13 kc1 kc2 kc3 kc4 kc5 kc6 kc7 kc8 kc9 kc10 kc11 kc12 kc13 V0 v0_from x4 v0_open c1 c8x c9x c10x c11x c12x c17x c18x c9 c10 c11 c12 c13) := by rw [e18]; exact hD
  refine lv_aload_n hx hb dX11_begin_94 rfl (lv_at hl 2 rfl) ?_
  refine va_get (D := (dC, dI)) (ci := 11) (v := .ref h9) (C := RX11) (T := TX11) (N := 71) hx hb hts inlX11 hown hK hP 0 rfl rfl 45 (by decide) w12_ (fun _ h9 => h9) rfl dX11_begin_95 ?_
  refine lv_iload_n hx hb dX11_begin_98 rfl (lv_at hl 1 rfl) ?_
  refine lv_iconst (v := 0) hx hb dX11_begin_99 (by decide +kernel) ?_
  have b19 := bd_in hf
  replace hf := bd_k hf
  obtain ⟨c19x, e19⟩ : ∃ y, y = upd c9 v0_statements.toNatClampNeg 0 := ⟨_, rfl⟩
  replace hf := nm_at hf e19
  refine va_iast hx hb hK hP hD hS 9 8 rfl rfl b19 dX11_begin_100 (fun H locs hP hD hS => ?_)
  have hP : va_P (dC, dI) vwCl (wX11_begin h0 h1 h2 h3 h4 h5 h6 h7 h8 h9 h10 h11 h12 h13 kc1 kc2 kc3 kc4 kc5 kc6 kc7 kc8 kc9 kc10 kc11 kc12 kc13 V0 v0_from x4 v0_open c1 c8x c9x c10x c11x c12x c17x c18x c19x c10 c11 c12 c13) H := by rw [e19]; exact hP
  have hD : va_D A (wX11_begin h0 h1 h2 h3 h4 h5 h6 h7 h8 h9 h10 h11 h12 h13 kc1 kc2 kc3 kc4 kc5 kc6 kc7 kc8 kc9 kc10 kc11 kc12 kc13 V0 v0_from x4 v0_open c1 c8x c9x c10x c11x c12x c17x c18x c19x c10 c11 c12 c13) := by rw [e19]; exact hD
  refine lv_aload_n hx hb dX11_begin_101 rfl (lv_at hl 2 rfl) ?_
  refine va_get (D := (dC, dI)) (ci := 11) (v := .ref h10) (C := RX11) (T := TX11) (N := 71) hx hb hts inlX11 hown hK hP 0 rfl rfl 53 (by decide) w0_ (fun _ h9 => h9) rfl dX11_begin_102 ?_
  refine lv_iload hx hb dX11_begin_105 (lv_at hl 0 rfl) ?_
  have b20 := bd_in hf
  replace hf := bd_k hf
  refine va_iald hx hb hK hP 10 9 rfl rfl b20 dX11_begin_107 ?_
  refine lv_topi (fun x21 e21 => ?_)
  replace hf := nm_at hf e21
  refine lv_iconst (v := (-1)) hx hb dX11_begin_108 (by decide +kernel) ?_
  refine lv_icmp_eq (tgt := 128) hx hb dX11_begin_109 (by decide) (fun cq22 => ?_) (fun cq22 => ?_)
  · replace hf := if_at hf cq22
    refine lv_aload_n hx hb dX11_begin_128 rfl (lv_at hl 2 rfl) ?_
    refine va_get (D := (dC, dI)) (ci := 11) (v := .ref h11) (C := RX11) (T := TX11) (N := 71) hx hb hts inlX11 hown hK hP 0 rfl rfl 52 (by decide) w13_ (fun _ h9 => h9) rfl dX11_begin_129 ?_
    refine lv_iload hx hb dX11_begin_132 (lv_at hl 0 rfl) ?_
    have b23 := bd_in hf
    replace hf := bd_k hf
    refine va_iald hx hb hK hP 11 10 rfl rfl b23 dX11_begin_134 ?_
    refine lv_topi (fun x24 e24 => ?_)
    replace hf := nm_at hf e24
    refine lv_if_ne (tgt := 148) hx hb dX11_begin_135 (by decide) (fun cq25 => ?_) (fun cq25 => ?_)
    · replace hf := if_no hf cq25
      refine lv_aload_n hx hb dX11_begin_148 rfl (lv_at hl 2 rfl) ?_
      refine va_get (D := (dC, dI)) (ci := 11) (v := .ref h7) (C := RX11) (T := TX11) (N := 71) hx hb hts inlX11 hown hK hP 0 rfl rfl 40 (by decide) w10_ (fun _ h9 => h9) rfl dX11_begin_149 ?_
      refine lv_iconst (v := 2) hx hb dX11_begin_152 (by decide +kernel) ?_
      refine lv_aload_n hx hb dX11_begin_153 rfl (lv_at hl 2 rfl) ?_
      refine va_get (D := (dC, dI)) (ci := 11) (v := .ref h13) (C := RX11) (T := TX11) (N := 71) hx hb hts inlX11 hown hK hP 0 rfl rfl 51 (by decide) w14_ (fun _ h9 => h9) rfl dX11_begin_154 ?_
      refine lv_iload hx hb dX11_begin_157 (lv_at hl 0 rfl) ?_
      have b26 := bd_in hf
      replace hf := bd_k hf
      refine va_iald hx hb hK hP 13 12 rfl rfl b26 dX11_begin_159 ?_
      refine lv_topi (fun x27 e27 => ?_)
      replace hf := nm_at hf e27
      refine lv_imul hx hb dX11_begin_160 ?_
      refine lv_topi (fun x28 e28 => ?_)
      replace hf := nm_at hf e28
      refine lv_aload_n hx hb dX11_begin_161 rfl (lv_at hl 2 rfl) ?_
      refine va_get (D := (dC, dI)) (ci := 11) (v := .ref h11) (C := RX11) (T := TX11) (N := 71) hx hb hts inlX11 hown hK hP 0 rfl rfl 52 (by decide) w13_ (fun _ h9 => h9) rfl dX11_begin_162 ?_
      refine lv_iload hx hb dX11_begin_165 (lv_at hl 0 rfl) ?_
      have b29 := bd_in hf
      replace hf := bd_k hf
      refine va_iald hx hb hK hP 11 10 rfl rfl b29 dX11_begin_167 ?_
      refine lv_topi (fun x30 e30 => ?_)
      replace hf := nm_at hf e30
      refine lv_iconst (v := 2) hx hb dX11_begin_168 (by decide +kernel) ?_
      refine lv_icmp_ne (tgt := 176) hx hb dX11_begin_169 (by decide) (fun cq31 => ?_) (fun cq31 => ?_)
      · replace hf := if_no hf cq31
        refine lv_iconst (v := 1) hx hb dX11_begin_176 (by decide +kernel) ?_
        exact (hG _ _ _ _ _).mp (J177 v0_statements x7 1 x28 x4 c8x c9x c10x c11x c12x c17x c18x c19x c10 c12 H locs ls (hP.sub [0, 1, 2, 3, 4, 5, 6, 7, 8, 9, 10, 11, 12, 13] rfl) (hD.sub [0, 1, 2, 3, 4, 5, 6, 7, 8, 9, 10, 11, 12, 13] (by decide) rfl) hS (lv_sub hl [2, 1, 0] rfl) hf)
      · replace hf := if_at hf cq31
        refine lv_iconst (v := 0) hx hb dX11_begin_172 (by decide +kernel) ?_
        refine lv_goto (tgt := 177) hx hb dX11_begin_173 (by decide) ?_
        exact (hG _ _ _ _ _).mp (J177 v0_statements x7 0 x28 x4 c8x c9x c10x c11x c12x c17x c18x c19x c10 c12 H locs ls (hP.sub [0, 1, 2, 3, 4, 5, 6, 7, 8, 9, 10, 11, 12, 13] rfl) (hD.sub [0, 1, 2, 3, 4, 5, 6, 7, 8, 9, 10, 11, 12, 13] (by decide) rfl) hS (lv_sub hl [2, 1, 0] rfl) hf)
    · replace hf := if_at hf cq25
      refine lv_aload_n hx hb dX11_begin_138 rfl (lv_at hl 2 rfl) ?_
      refine va_get (D := (dC, dI)) (ci := 11) (v := .ref h12) (C := RX11) (T := TX11) (N := 71) hx hb hts inlX11 hown hK hP 0 rfl rfl 35 (by decide) w15_ (fun _ h9 => h9) rfl dX11_begin_139 ?_
      refine lv_iload_n hx hb dX11_begin_142 rfl (lv_at hl 3 rfl) ?_
      refine lv_iload_n hx hb dX11_begin_143 rfl (lv_at hl 1 rfl) ?_
      have b32 := bd_in hf
      replace hf := bd_k hf
      obtain ⟨c32x, e32⟩ : ∃ y, y = upd c12 a0.toNatClampNeg v0_statements := ⟨_, rfl⟩
      replace hf := nm_at hf e32
      refine va_iast hx hb hK hP hD hS 12 11 rfl rfl b32 dX11_begin_144 (fun H locs hP hD hS => ?_)
      have hP : va_P (dC, dI) vwCl (wX11_begin h0 h1 h2 h3 h4 h5 h6 h7 h8 h9 h10 h11 h12 h13 kc1 kc2 kc3 kc4 kc5 kc6 kc7 kc8 kc9 kc10 kc11 kc12 kc13 V0 v0_from x4 v0_open c1 c8x c9x c10x c11x c12x c17x c18x c19x c10 c11 c32x c13) H := by rw [e32]; exact hP
      have hD : va_D A (wX11_begin h0 h1 h2 h3 h4 h5 h6 h7 h8 h9 h10 h11 h12 h13 kc1 kc2 kc3 kc4 kc5 kc6 kc7 kc8 kc9 kc10 kc11 kc12 kc13 V0 v0_from x4 v0_open c1 c8x c9x c10x c11x c12x c17x c18x c19x c10 c11 c32x c13) := by rw [e32]; exact hD
      refine lv_goto (tgt := 180) hx hb dX11_begin_145 (by decide) ?_
      exact (hG _ _ _ _ _).mp (J180 v0_statements x7 x4 c8x c9x c10x c11x c12x c17x c18x c19x c10 c32x H locs ls (hP.sub [0, 1, 2, 3, 4, 5, 6, 7, 8, 9, 10, 11, 12, 13] rfl) (hD.sub [0, 1, 2, 3, 4, 5, 6, 7, 8, 9, 10, 11, 12, 13] (by decide) rfl) hS (lv_sub hl [2, 1, 0] rfl) hf)
  · replace hf := if_no hf cq22
    refine lv_aload_n hx hb dX11_begin_112 rfl (lv_at hl 2 rfl) ?_
    refine va_get (D := (dC, dI)) (ci := 11) (v := .ref h5) (C := RX11) (T := TX11) (N := 71) hx hb hts inlX11 hown hK hP 0 rfl rfl 42 (by decide) w8_ (fun _ h9 => h9) rfl dX11_begin_113 ?_
    refine lv_aload_n hx hb dX11_begin_116 rfl (lv_at hl 2 rfl) ?_
    refine va_get (D := (dC, dI)) (ci := 11) (v := .ref h10) (C := RX11) (T := TX11) (N := 71) hx hb hts inlX11 hown hK hP 0 rfl rfl 53 (by decide) w0_ (fun _ h9 => h9) rfl dX11_begin_117 ?_
    refine lv_iload hx hb dX11_begin_120 (lv_at hl 0 rfl) ?_
    have b33 := bd_in hf
    replace hf := bd_k hf
    refine va_iald hx hb hK hP 10 9 rfl rfl b33 dX11_begin_122 ?_
    refine lv_topi (fun x34 e34 => ?_)
    replace hf := nm_at hf e34
    refine lv_iload_n hx hb dX11_begin_123 rfl (lv_at hl 1 rfl) ?_
    have b35 := bd_in hf
    replace hf := bd_k hf
    obtain ⟨c35x, e35⟩ : ∃ y, y = upd c11x x34.toNatClampNeg v0_statements := ⟨_, rfl⟩
    replace hf := nm_at hf e35
    refine va_iast hx hb hK hP hD hS 5 4 rfl rfl b35 dX11_begin_124 (fun H locs hP hD hS => ?_)
    have hP : va_P (dC, dI) vwCl (wX11_begin h0 h1 h2 h3 h4 h5 h6 h7 h8 h9 h10 h11 h12 h13 kc1 kc2 kc3 kc4 kc5 kc6 kc7 kc8 kc9 kc10 kc11 kc12 kc13 V0 v0_from x4 v0_open c1 c8x c9x c10x c35x c12x c17x c18x c19x c10 c11 c12 c13) H := by rw [e35]; exact hP
    have hD : va_D A (wX11_begin h0 h1 h2 h3 h4 h5 h6 h7 h8 h9 h10 h11 h12 h13 kc1 kc2 kc3 kc4 kc5 kc6 kc7 kc8 kc9 kc10 kc11 kc12 kc13 V0 v0_from x4 v0_open c1 c8x c9x c10x c35x c12x c17x c18x c19x c10 c11 c12 c13) := by rw [e35]; exact hD
    refine lv_goto (tgt := 180) hx hb dX11_begin_125 (by decide) ?_
    exact (hG _ _ _ _ _).mp (J180 v0_statements x7 x4 c8x c9x c10x c35x c12x c17x c18x c19x c10 c12 H locs ls (hP.sub [0, 1, 2, 3, 4, 5, 6, 7, 8, 9, 10, 11, 12, 13] rfl) (hD.sub [0, 1, 2, 3, 4, 5, 6, 7, 8, 9, 10, 11, 12, 13] (by decide) rfl) hS (lv_sub hl [2, 1, 0] rfl) hf)
set_option maxHeartbeats 4000000 in
set_option maxRecDepth 100000 in
theorem mX11_fail (l : Launch) (dC : Nat → ClassId) (dI : Nat → Nat → Nat) (h0 : Nat) (sz : Nat) (base : Nat × Nat × Nat) (a0 : Int32) (a1 : Int32) (v0_wrong : Int32) (v0_wrongAt : Int32) (V0 : Nat → Value) (o : Int32 × Int32 × Int32) (hf : fX11_fail a0 a1 v0_wrong v0_wrongAt = some o) : Met l yX11_fail (.code yX11_fail cX11_fail 3 (some .boolean) :: wsL_law) ({ frames := 0, cells := 0, slots := 0, locals := 0 }) (cPre (dC, dI) vwCl [.ref h0, .int a0, .int a1] sz base [(h0, .inr (11, [V0 0, V0 1, V0 2, V0 3, V0 4, V0 5, V0 6, V0 7, V0 8, V0 9, V0 10, V0 11, V0 12, V0 13, V0 14, V0 15, V0 16, V0 17, V0 18, V0 19, V0 20, V0 21, V0 22, V0 23, V0 24, .int v0_wrong, .int v0_wrongAt, V0 27, V0 28, V0 29, V0 30, V0 31, V0 32, V0 33, V0 34, V0 35, V0 36, V0 37, V0 38, V0 39, V0 40, V0 41, V0 42, V0 43, V0 44, V0 45, V0 46, V0 47, V0 48, V0 49, V0 50, V0 51, V0 52, V0 53, V0 54, V0 55, V0 56, V0 57, V0 58, V0 59, V0 60, V0 61, V0 62, V0 63, V0 64, V0 65, V0 66, V0 67, V0 68, V0 69, V0 70]))] []) (va_Qi (fun r u => r = o.1 ∧ u = o.2) (fun (u : Int32 × Int32) t => cPost (dC, dI) vwCl (va_A [(h0, .inr (11, [V0 0, V0 1, V0 2, V0 3, V0 4, V0 5, V0 6, V0 7, V0 8, V0 9, V0 10, V0 11, V0 12, V0 13, V0 14, V0 15, V0 16, V0 17, V0 18, V0 19, V0 20, V0 21, V0 22, V0 23, V0 24, .int v0_wrong, .int v0_wrongAt, V0 27, V0 28, V0 29, V0 30, V0 31, V0 32, V0 33, V0 34, V0 35, V0 36, V0 37, V0 38, V0 39, V0 40, V0 41, V0 42, V0 43, V0 44, V0 45, V0 46, V0 47, V0 48, V0 49, V0 50, V0 51, V0 52, V0 53, V0 54, V0 55, V0 56, V0 57, V0 58, V0 59, V0 60, V0 61, V0 62, V0 63, V0 64, V0 65, V0 66, V0 67, V0 68, V0 69, V0 70]))] sz) [(h0, .inr (11, [V0 0, V0 1, V0 2, V0 3, V0 4, V0 5, V0 6, V0 7, V0 8, V0 9, V0 10, V0 11, V0 12, V0 13, V0 14, V0 15, V0 16, V0 17, V0 18, V0 19, V0 20, V0 21, V0 22, V0 23, V0 24, .int u.1, .int u.2, V0 27, V0 28, V0 29, V0 30, V0 31, V0 32, V0 33, V0 34, V0 35, V0 36, V0 37, V0 38, V0 39, V0 40, V0 41, V0 42, V0 43, V0 44, V0 45, V0 46, V0 47, V0 48, V0 49, V0 50, V0 51, V0 52, V0 53, V0 54, V0 55, V0 56, V0 57, V0 58, V0 59, V0 60, V0 61, V0 62, V0 63, V0 64, V0 65, V0 66, V0 67, V0 68, V0 69, V0 70]))] [] t) (va_A [(h0, .inr (11, [V0 0, V0 1, V0 2, V0 3, V0 4, V0 5, V0 6, V0 7, V0 8, V0 9, V0 10, V0 11, V0 12, V0 13, V0 14, V0 15, V0 16, V0 17, V0 18, V0 19, V0 20, V0 21, V0 22, V0 23, V0 24, .int v0_wrong, .int v0_wrongAt, V0 27, V0 28, V0 29, V0 30, V0 31, V0 32, V0 33, V0 34, V0 35, V0 36, V0 37, V0 38, V0 39, V0 40, V0 41, V0 42, V0 43, V0 44, V0 45, V0 46, V0 47, V0 48, V0 49, V0 50, V0 51, V0 52, V0 53, V0 54, V0 55, V0 56, V0 57, V0 58, V0 59, V0 60, V0 61, V0 62, V0 63, V0 64, V0 65, V0 66, V0 67, V0 68, V0 69, V0 70]))] sz)) 0 0 (va_A [(h0, .inr (11, [V0 0, V0 1, V0 2, V0 3, V0 4, V0 5, V0 6, V0 7, V0 8, V0 9, V0 10, V0 11, V0 12, V0 13, V0 14, V0 15, V0 16, V0 17, V0 18, V0 19, V0 20, V0 21, V0 22, V0 23, V0 24, .int v0_wrong, .int v0_wrongAt, V0 27, V0 28, V0 29, V0 30, V0 31, V0 32, V0 33, V0 34, V0 35, V0 36, V0 37, V0 38, V0 39, V0 40, V0 41, V0 42, V0 43, V0 44, V0 45, V0 46, V0 47, V0 48, V0 49, V0 50, V0 51, V0 52, V0 53, V0 54, V0 55, V0 56, V0 57, V0 58, V0 59, V0 60, V0 61, V0 62, V0 63, V0 64, V0 65, V0 66, V0 67, V0 68, V0 69, V0 70]))] sz) := by
  refine Met.ofW (cc := cX11_fail) (maxL := 3) (ret := (some .boolean)) (by decide) rfl ?_
  intro p e s m args below meth c s₁ B hml hv
  obtain ⟨rfl, hsz, hP, hK, hD0, hE⟩ := hv
  have hx := B.exec
  have hb := B.bytes
  have hr := B.returns
  have hts : ∀ w ∈ wsL_law, _ := fun w h => atoms_spec (ws := .code yX11_fail cX11_fail 3 (some .boolean) :: wsL_law) B.pre w (List.mem_cons_of_mem _ h)
  have hown : s.vm.findClass RX11 = some m.cls := findClass_of_methodNamed B.named
  have hlocks := B.notSynchronized
  have w0_ := hts _ q793
  have w1_ := hts _ q95
  subst hsz
  have hD := hD0.self (sz := s.heap.size)
  generalize hAe : va_A [(h0, .inr (11, [V0 0, V0 1, V0 2, V0 3, V0 4, V0 5, V0 6, V0 7, V0 8, V0 9, V0 10, V0 11, V0 12, V0 13, V0 14, V0 15, V0 16, V0 17, V0 18, V0 19, V0 20, V0 21, V0 22, V0 23, V0 24, .int v0_wrong, .int v0_wrongAt, V0 27, V0 28, V0 29, V0 30, V0 31, V0 32, V0 33, V0 34, V0 35, V0 36, V0 37, V0 38, V0 39, V0 40, V0 41, V0 42, V0 43, V0 44, V0 45, V0 46, V0 47, V0 48, V0 49, V0 50, V0 51, V0 52, V0 53, V0 54, V0 55, V0 56, V0 57, V0 58, V0 59, V0 60, V0 61, V0 62, V0 63, V0 64, V0 65, V0 66, V0 67, V0 68, V0 69, V0 70]))] s.heap.size = A at hD ⊢
  have hA : ∀ q : Nat, s.heap.size ≤ q → A q := fun q h => by rw [← hAe]; exact Or.inr h
  have hAB : ∀ q : Nat, A q → base.1 ≤ q := fun q h => by rw [← hAe] at h; exact h.elim (fun ⟨k, e, hk⟩ => hD0.2 k _ hk) (fun hk => Nat.le_trans hE.1 hk)
  have hS : va_S A s.heap s.heap [] := va_S.rf
  have hl := lv_entry ([.ref h0, .int a0, .int a1]) (n := 3) (Nat.le_of_ble_eq_true rfl)
  rw [lg_entry_eq]
  generalize (lg_sl ([.ref h0, .int a0, .int a1]) ++ List.replicate (3 - (lg_sl ([.ref h0, .int a0, .int a1])).length) Slot.unset).toArray = ls at hl ⊢
  have hl : lv_has ls 3 [(0, .ref h0), (1, .int a0), (2, .int a1)] := hl
  have hP : va_P (dC, dI) vwCl [(h0, .inr (11, [V0 0, V0 1, V0 2, V0 3, V0 4, V0 5, V0 6, V0 7, V0 8, V0 9, V0 10, V0 11, V0 12, V0 13, V0 14, V0 15, V0 16, V0 17, V0 18, V0 19, V0 20, V0 21, V0 22, V0 23, V0 24, .int v0_wrong, .int v0_wrongAt, V0 27, V0 28, V0 29, V0 30, V0 31, V0 32, V0 33, V0 34, V0 35, V0 36, V0 37, V0 38, V0 39, V0 40, V0 41, V0 42, V0 43, V0 44, V0 45, V0 46, V0 47, V0 48, V0 49, V0 50, V0 51, V0 52, V0 53, V0 54, V0 55, V0 56, V0 57, V0 58, V0 59, V0 60, V0 61, V0 62, V0 63, V0 64, V0 65, V0 66, V0 67, V0 68, V0 69, V0 70]))] s.heap := hP
  refine gl_intro (fun G hG => ?_)
  have J17 : ∀ (v0_wrong : Int32) (v0_wrongAt : Int32) (H : Heap) (locs : List Loc) (ls : Array Slot), va_P (dC, dI) vwCl [(h0, .inr (11, [V0 0, V0 1, V0 2, V0 3, V0 4, V0 5, V0 6, V0 7, V0 8, V0 9, V0 10, V0 11, V0 12, V0 13, V0 14, V0 15, V0 16, V0 17, V0 18, V0 19, V0 20, V0 21, V0 22, V0 23, V0 24, .int v0_wrong, .int v0_wrongAt, V0 27, V0 28, V0 29, V0 30, V0 31, V0 32, V0 33, V0 34, V0 35, V0 36, V0 37, V0 38, V0 39, V0 40, V0 41, V0 42, V0 43, V0 44, V0 45, V0 46, V0 47, V0 48, V0 49, V0 50, V0 51, V0 52, V0 53, V0 54, V0 55, V0 56, V0 57, V0 58, V0 59, V0 60, V0 61, V0 62, V0 63, V0 64, V0 65, V0 66, V0 67, V0 68, V0 69, V0 70]))] H → va_D A [(h0, .inr (11, [V0 0, V0 1, V0 2, V0 3, V0 4, V0 5, V0 6, V0 7, V0 8, V0 9, V0 10, V0 11, V0 12, V0 13, V0 14, V0 15, V0 16, V0 17, V0 18, V0 19, V0 20, V0 21, V0 22, V0 23, V0 24, .int v0_wrong, .int v0_wrongAt, V0 27, V0 28, V0 29, V0 30, V0 31, V0 32, V0 33, V0 34, V0 35, V0 36, V0 37, V0 38, V0 39, V0 40, V0 41, V0 42, V0 43, V0 44, V0 45, V0 46, V0 47, V0 48, V0 49, V0 50, V0 51, V0 52, V0 53, V0 54, V0 55, V0 56, V0 57, V0 58, V0 59, V0 60, V0 61, V0 62, V0 63, V0 64, V0 65, V0 66, V0 67, V0 68, V0 69, V0 70]))] → va_S A s.heap H locs → lv_has ls 3 [(0, .ref h0)] → fX11_fail_p17   v0_wrong v0_wrongAt = some o → G 0 0 H locs (F0 m 17 ls []) := by
    intro  v0_wrong v0_wrongAt H locs ls hP hD hS hl hf
    refine (hG _ _ _ _ _).mpr ?_
    unfold fX11_fail_p17 at hf
    refine lv_iconst (v := 0) hx hb dX11_fail_17 (by decide +kernel) ?_
    have hf1 := Option.some.inj hf
    subst hf1
    have hP9 := hP.sub (ws' := [(h0, .inr (11, [V0 0, V0 1, V0 2, V0 3, V0 4, V0 5, V0 6, V0 7, V0 8, V0 9, V0 10, V0 11, V0 12, V0 13, V0 14, V0 15, V0 16, V0 17, V0 18, V0 19, V0 20, V0 21, V0 22, V0 23, V0 24, .int v0_wrong, .int v0_wrongAt, V0 27, V0 28, V0 29, V0 30, V0 31, V0 32, V0 33, V0 34, V0 35, V0 36, V0 37, V0 38, V0 39, V0 40, V0 41, V0 42, V0 43, V0 44, V0 45, V0 46, V0 47, V0 48, V0 49, V0 50, V0 51, V0 52, V0 53, V0 54, V0 55, V0 56, V0 57, V0 58, V0 59, V0 60, V0 61, V0 62, V0 63, V0 64, V0 65, V0 66, V0 67, V0 68, V0 69, V0 70]))]) [0] rfl
    have hD9 := hD.sub (ws' := [(h0, .inr (11, [V0 0, V0 1, V0 2, V0 3, V0 4, V0 5, V0 6, V0 7, V0 8, V0 9, V0 10, V0 11, V0 12, V0 13, V0 14, V0 15, V0 16, V0 17, V0 18, V0 19, V0 20, V0 21, V0 22, V0 23, V0 24, .int v0_wrong, .int v0_wrongAt, V0 27, V0 28, V0 29, V0 30, V0 31, V0 32, V0 33, V0 34, V0 35, V0 36, V0 37, V0 38, V0 39, V0 40, V0 41, V0 42, V0 43, V0 44, V0 45, V0 46, V0 47, V0 48, V0 49, V0 50, V0 51, V0 52, V0 53, V0 54, V0 55, V0 56, V0 57, V0 58, V0 59, V0 60, V0 61, V0 62, V0 63, V0 64, V0 65, V0 66, V0 67, V0 68, V0 69, V0 70]))]) [0] (by decide) rfl
    exact W.zret (v := 0) (ty := .boolean) hx hb hr rfl (fun t ht hW => ⟨⟨0, (v0_wrong, v0_wrongAt), rfl, ⟨rfl, rfl⟩, by rw [ht]; exact hP9, va_K.moved hW.alike hK, hD9⟩, hS.F ht⟩) hS.2.2 dX11_fail_18
  refine (hG _ _ _ _ _).mpr ?_
  obtain ⟨H, hH⟩ : ∃ H, H = s.heap := ⟨_, rfl⟩
  have hS : va_S A s.heap H [] := by rw [hH]; exact hS
  rw [← hH] at hP ⊢
  generalize ([] : List Loc) = locs at hS ⊢
  unfold fX11_fail at hf
  refine lv_aload_n hx hb dX11_fail_0 rfl (lv_at hl 0 rfl) ?_
  refine va_get (D := (dC, dI)) (ci := 11) (v := .int v0_wrong) (C := RX11) (T := TX11) (N := 71) hx hb hts inlX11 hown hK hP 0 rfl rfl 25 (by decide) w0_ (fun _ h9 => h9) rfl dX11_fail_1 ?_
  refine lv_if_ne (tgt := 17) hx hb dX11_fail_4 (by decide) (fun cq1 => ?_) (fun cq1 => ?_)
  · replace hf := if_no hf cq1
    exact (hG _ _ _ _ _).mp (J17 v0_wrong v0_wrongAt H locs ls (hP.sub [0] rfl) (hD.sub [0] (by decide) rfl) hS (lv_sub hl [0] rfl) hf)
  · replace hf := if_at hf cq1
    refine lv_aload_n hx hb dX11_fail_7 rfl (lv_at hl 0 rfl) ?_
    refine lv_iload_n hx hb dX11_fail_8 rfl (lv_at hl 1 rfl) ?_
    refine va_put (D := (dC, dI)) (ci := 11) (v := .int a0) (ty := .int) (C := RX11) (T := TX11) (N := 71) hx hb hts inlX11 tyX11 tyX11_ok nmX11 hown hK hP hD hS 0 rfl rfl 25 (by decide) w0_ (fun _ h9 => h9) rfl (by decide +kernel) rfl rfl (Nat.le_of_ble_eq_true rfl) dX11_fail_9 (fun H locs hP hD hS => ?_)
    have hP : va_P (dC, dI) vwCl [(h0, .inr (11, [V0 0, V0 1, V0 2, V0 3, V0 4, V0 5, V0 6, V0 7, V0 8, V0 9, V0 10, V0 11, V0 12, V0 13, V0 14, V0 15, V0 16, V0 17, V0 18, V0 19, V0 20, V0 21, V0 22, V0 23, V0 24, .int a0, .int v0_wrongAt, V0 27, V0 28, V0 29, V0 30, V0 31, V0 32, V0 33, V0 34, V0 35, V0 36, V0 37, V0 38, V0 39, V0 40, V0 41, V0 42, V0 43, V0 44, V0 45, V0 46, V0 47, V0 48, V0 49, V0 50, V0 51, V0 52, V0 53, V0 54, V0 55, V0 56, V0 57, V0 58, V0 59, V0 60, V0 61, V0 62, V0 63, V0 64, V0 65, V0 66, V0 67, V0 68, V0 69, V0 70]))] H := hP
    have hD : va_D A [(h0, .inr (11, [V0 0, V0 1, V0 2, V0 3, V0 4, V0 5, V0 6, V0 7, V0 8, V0 9, V0 10, V0 11, V0 12, V0 13, V0 14, V0 15, V0 16, V0 17, V0 18, V0 19, V0 20, V0 21, V0 22, V0 23, V0 24, .int a0, .int v0_wrongAt, V0 27, V0 28, V0 29, V0 30, V0 31, V0 32, V0 33, V0 34, V0 35, V0 36, V0 37, V0 38, V0 39, V0 40, V0 41, V0 42, V0 43, V0 44, V0 45, V0 46, V0 47, V0 48, V0 49, V0 50, V0 51, V0 52, V0 53, V0 54, V0 55, V0 56, V0 57, V0 58, V0 59, V0 60, V0 61, V0 62, V0 63, V0 64, V0 65, V0 66, V0 67, V0 68, V0 69, V0 70]))] := hD
    refine lv_aload_n hx hb dX11_fail_12 rfl (lv_at hl 0 rfl) ?_
    refine lv_iload_n hx hb dX11_fail_13 rfl (lv_at hl 2 rfl) ?_
    refine va_put (D := (dC, dI)) (ci := 11) (v := .int a1) (ty := .int) (C := RX11) (T := TX11) (N := 71) hx hb hts inlX11 tyX11 tyX11_ok nmX11 hown hK hP hD hS 0 rfl rfl 26 (by decide) w1_ (fun _ h9 => h9) rfl (by decide +kernel) rfl rfl (Nat.le_of_ble_eq_true rfl) dX11_fail_14 (fun H locs hP hD hS => ?_)
    have hP : va_P (dC, dI) vwCl [(h0, .inr (11, [V0 0, V0 1, V0 2, V0 3, V0 4, V0 5, V0 6, V0 7, V0 8, V0 9, V0 10, V0 11, V0 12, V0 13, V0 14, V0 15, V0 16, V0 17, V0 18, V0 19, V0 20, V0 21, V0 22, V0 23, V0 24, .int a0, .int a1, V0 27, V0 28, V0 29, V0 30, V0 31, V0 32, V0 33, V0 34, V0 35, V0 36, V0 37, V0 38, V0 39, V0 40, V0 41, V0 42, V0 43, V0 44, V0 45, V0 46, V0 47, V0 48, V0 49, V0 50, V0 51, V0 52, V0 53, V0 54, V0 55, V0 56, V0 57, V0 58, V0 59, V0 60, V0 61, V0 62, V0 63, V0 64, V0 65, V0 66, V0 67, V0 68, V0 69, V0 70]))] H := hP
    have hD : va_D A [(h0, .inr (11, [V0 0, V0 1, V0 2, V0 3, V0 4, V0 5, V0 6, V0 7, V0 8, V0 9, V0 10, V0 11, V0 12, V0 13, V0 14, V0 15, V0 16, V0 17, V0 18, V0 19, V0 20, V0 21, V0 22, V0 23, V0 24, .int a0, .int a1, V0 27, V0 28, V0 29, V0 30, V0 31, V0 32, V0 33, V0 34, V0 35, V0 36, V0 37, V0 38, V0 39, V0 40, V0 41, V0 42, V0 43, V0 44, V0 45, V0 46, V0 47, V0 48, V0 49, V0 50, V0 51, V0 52, V0 53, V0 54, V0 55, V0 56, V0 57, V0 58, V0 59, V0 60, V0 61, V0 62, V0 63, V0 64, V0 65, V0 66, V0 67, V0 68, V0 69, V0 70]))] := hD
    exact (hG _ _ _ _ _).mp (J17 a0 a1 H locs ls (hP.sub [0] rfl) (hD.sub [0] (by decide) rfl) hS (lv_sub hl [0] rfl) hf)
abbrev wX11_bind (h0 h1 h2 h3 h4 h5 h6 h7 h8 h9 h10 : Nat) (kc1 kc2 kc3 kc4 kc5 kc6 kc7 kc8 kc9 kc10 : ClassId) (V0 : Nat → Value) (v0_wrong : Int32) (v0_wrongAt : Int32) (v0_procedures : Int32) (v0_statements : Int32) (c1 : Nat → Int32) (c2 : Nat → Int32) (c3 : Nat → Int64) (c4 : Nat → Int64) (c5 : Nat → Int32) (c6 : Nat → Int32) (c7 : Nat → Int32) (c8 : Nat → Int32) (c9 : Nat → Int32) (c10 : Nat → Int32) : va_W := [(h0, .inr (11, [V0 0, V0 1, V0 2, V0 3, V0 4, V0 5, V0 6, V0 7, V0 8, V0 9, V0 10, V0 11, V0 12, V0 13, V0 14, V0 15, V0 16, V0 17, V0 18, V0 19, V0 20, V0 21, V0 22, V0 23, V0 24, .int v0_wrong, .int v0_wrongAt, V0 27, V0 28, .int v0_procedures, .int v0_statements, V0 31, V0 32, V0 33, .ref h3, V0 35, .ref h1, V0 37, V0 38, .ref h2, V0 40, .ref h8, .ref h7, .ref h6, V0 44, V0 45, V0 46, V0 47, .ref h4, .ref h5, V0 50, .ref h10, .ref h9, V0 53, V0 54, V0 55, V0 56, V0 57, V0 58, V0 59, V0 60, V0 61, V0 62, V0 63, V0 64, V0 65, V0 66, V0 67, V0 68, V0 69, V0 70])), (h1, .inl (kc1, 40, .inl c1)), (h2, .inl (kc2, 40, .inl c2)), (h3, .inl (kc3, 6, .inr (.inl c3))), (h4, .inl (kc4, 40, .inr (.inl c4))), (h5, .inl (kc5, 40, .inl c5)), (h6, .inl (kc6, 40, .inl c6)), (h7, .inl (kc7, 40, .inl c7)), (h8, .inl (kc8, 40, .inl c8)), (h9, .inl (kc9, 90, .inl c9)), (h10, .inl (kc10, 90, .inl c10))]
set_option maxHeartbeats 4000000 in
set_option maxRecDepth 100000 in
theorem mX11_bind (l : Launch) (dC : Nat → ClassId) (dI : Nat → Nat → Nat) (h0 h1 h2 h3 h4 h5 h6 h7 h8 h9 h10 : Nat) (kc1 kc2 kc3 kc4 kc5 kc6 kc7 kc8 kc9 kc10 : ClassId) (sz : Nat) (base : Nat × Nat × Nat) (v0_wrong : Int32) (v0_wrongAt : Int32) (v0_procedures : Int32) (v0_statements : Int32) (c1 : Nat → Int32) (c2 : Nat → Int32) (c3 : Nat → Int64) (c4 : Nat → Int64) (c5 : Nat → Int32) (c6 : Nat → Int32) (c7 : Nat → Int32) (c8 : Nat → Int32) (c9 : Nat → Int32) (c10 : Nat → Int32) (V0 : Nat → Value) (o : Int32 × Int32 × Int32 × (Nat → Int32) × (Nat → Int32)) (hf : fX11_bind v0_wrong v0_wrongAt v0_procedures v0_statements c1 c2 c3 c4 c5 c6 c7 c8 c9 c10 = some o) : Met l yX11_bind (.code yX11_bind cX11_bind 3 (some .boolean) :: wsL_law) ({ frames := 1, cells := 0, slots := 0, locals := 22 }) (cPre (dC, dI) vwCl [.ref h0] sz base (wX11_bind h0 h1 h2 h3 h4 h5 h6 h7 h8 h9 h10 kc1 kc2 kc3 kc4 kc5 kc6 kc7 kc8 kc9 kc10 V0 v0_wrong v0_wrongAt v0_procedures v0_statements c1 c2 c3 c4 c5 c6 c7 c8 c9 c10) [(kc1, .int), (kc2, .int), (kc3, .long), (kc4, .long), (kc5, .int), (kc6, .int), (kc7, .int), (kc8, .int), (kc9, .int), (kc10, .int)]) (va_Qi (fun r u => r = o.1 ∧ u = o.2) (fun (u : Int32 × Int32 × (Nat → Int32) × (Nat → Int32)) t => cPost (dC, dI) vwCl (va_A (wX11_bind h0 h1 h2 h3 h4 h5 h6 h7 h8 h9 h10 kc1 kc2 kc3 kc4 kc5 kc6 kc7 kc8 kc9 kc10 V0 v0_wrong v0_wrongAt v0_procedures v0_statements c1 c2 c3 c4 c5 c6 c7 c8 c9 c10) sz) (wX11_bind h0 h1 h2 h3 h4 h5 h6 h7 h8 h9 h10 kc1 kc2 kc3 kc4 kc5 kc6 kc7 kc8 kc9 kc10 V0 u.1 u.2.1 v0_procedures v0_statements c1 u.2.2.1 c3 c4 c5 c6 c7 u.2.2.2 c9 c10) [(kc1, .int), (kc2, .int), (kc3, .long), (kc4, .long), (kc5, .int), (kc6, .int), (kc7, .int), (kc8, .int), (kc9, .int), (kc10, .int)] t) (va_A (wX11_bind h0 h1 h2 h3 h4 h5 h6 h7 h8 h9 h10 kc1 kc2 kc3 kc4 kc5 kc6 kc7 kc8 kc9 kc10 V0 v0_wrong v0_wrongAt v0_procedures v0_statements c1 c2 c3 c4 c5 c6 c7 c8 c9 c10) sz)) 0 0 (va_A (wX11_bind h0 h1 h2 h3 h4 h5 h6 h7 h8 h9 h10 kc1 kc2 kc3 kc4 kc5 kc6 kc7 kc8 kc9 kc10 V0 v0_wrong v0_wrongAt v0_procedures v0_statements c1 c2 c3 c4 c5 c6 c7 c8 c9 c10) sz) := by
  refine Met.ofW (cc := cX11_bind) (maxL := 3) (ret := (some .boolean)) (by decide) rfl ?_
  intro p e s m args below meth c s₁ B hml hv
  obtain ⟨rfl, hsz, hP, hK, hD0, hE⟩ := hv
  have hx := B.exec
  have hb := B.bytes
  have hr := B.returns
  have hts : ∀ w ∈ wsL_law, _ := fun w h => atoms_spec (ws := .code yX11_bind cX11_bind 3 (some .boolean) :: wsL_law) B.pre w (List.mem_cons_of_mem _ h)
  have hown : s.vm.findClass RX11 = some m.cls := findClass_of_methodNamed B.named
  have hlocks := B.notSynchronized
  have w0_ := hts _ q796
  have w1_ := hts _ q108
  have w2_ := hts _ q106
  have w3_ := hts _ q107
  have w4_ := hts _ q115
  have w5_ := hts _ q114
  have w6_ := hts _ q832
  have w7_ := hts _ q104
  have w8_ := hts _ q113
  have w9_ := hts _ q99
  have w10_ := hts _ q112
  have w11_ := hts _ q101
  subst hsz
  have hD := hD0.self (sz := s.heap.size)
  generalize hAe : va_A (wX11_bind h0 h1 h2 h3 h4 h5 h6 h7 h8 h9 h10 kc1 kc2 kc3 kc4 kc5 kc6 kc7 kc8 kc9 kc10 V0 v0_wrong v0_wrongAt v0_procedures v0_statements c1 c2 c3 c4 c5 c6 c7 c8 c9 c10) s.heap.size = A at hD ⊢
  have hA : ∀ q : Nat, s.heap.size ≤ q → A q := fun q h => by rw [← hAe]; exact Or.inr h
  have hAB : ∀ q : Nat, A q → base.1 ≤ q := fun q h => by rw [← hAe] at h; exact h.elim (fun ⟨k, e, hk⟩ => hD0.2 k _ hk) (fun hk => Nat.le_trans hE.1 hk)
  have hS : va_S A s.heap s.heap [] := va_S.rf
  have hl := lv_entry ([.ref h0]) (n := 3) (Nat.le_of_ble_eq_true rfl)
  rw [lg_entry_eq]
  generalize (lg_sl ([.ref h0]) ++ List.replicate (3 - (lg_sl ([.ref h0])).length) Slot.unset).toArray = ls at hl ⊢
  have hl : lv_has ls 3 [(0, .ref h0)] := hl
  have hP : va_P (dC, dI) vwCl (wX11_bind h0 h1 h2 h3 h4 h5 h6 h7 h8 h9 h10 kc1 kc2 kc3 kc4 kc5 kc6 kc7 kc8 kc9 kc10 V0 v0_wrong v0_wrongAt v0_procedures v0_statements c1 c2 c3 c4 c5 c6 c7 c8 c9 c10) s.heap := hP
  refine gl_intro (fun G hG => ?_)
  have J187 : ∀ (k105 : Int32 → Int32 → Int32 → (Nat → Int32) → (Nat → Int32) → Option (Int32 × Int32 × Int32 × (Nat → Int32) × (Nat → Int32))) (hk105 : ∀ (y1 : Int32) (v0_wrong : Int32) (v0_wrongAt : Int32) (c2 : (Nat → Int32)) (c8 : (Nat → Int32)) (H : Heap) (locs : List Loc) (ls : Array Slot), va_P (dC, dI) vwCl (wX11_bind h0 h1 h2 h3 h4 h5 h6 h7 h8 h9 h10 kc1 kc2 kc3 kc4 kc5 kc6 kc7 kc8 kc9 kc10 V0 v0_wrong v0_wrongAt v0_procedures v0_statements c1 c2 c3 c4 c5 c6 c7 c8 c9 c10) H → va_D A (wX11_bind h0 h1 h2 h3 h4 h5 h6 h7 h8 h9 h10 kc1 kc2 kc3 kc4 kc5 kc6 kc7 kc8 kc9 kc10 V0 v0_wrong v0_wrongAt v0_procedures v0_statements c1 c2 c3 c4 c5 c6 c7 c8 c9 c10) → va_S A s.heap H locs → lv_has ls 3 [(0, .ref h0), (1, .int y1)] → k105 y1 v0_wrong v0_wrongAt c2 c8 = some o → G 0 0 H locs (F0 m 105 ls [])), ∀ (y1 : Int32) (z0 : Int32) (z1 : Int32) (v0_wrong : Int32) (v0_wrongAt : Int32) (c2 : (Nat → Int32)) (c8 : (Nat → Int32)) (H : Heap) (locs : List Loc) (ls : Array Slot), va_P (dC, dI) vwCl (wX11_bind h0 h1 h2 h3 h4 h5 h6 h7 h8 h9 h10 kc1 kc2 kc3 kc4 kc5 kc6 kc7 kc8 kc9 kc10 V0 v0_wrong v0_wrongAt v0_procedures v0_statements c1 c2 c3 c4 c5 c6 c7 c8 c9 c10) H → va_D A (wX11_bind h0 h1 h2 h3 h4 h5 h6 h7 h8 h9 h10 kc1 kc2 kc3 kc4 kc5 kc6 kc7 kc8 kc9 kc10 V0 v0_wrong v0_wrongAt v0_procedures v0_statements c1 c2 c3 c4 c5 c6 c7 c8 c9 c10) → va_S A s.heap H locs → lv_has ls 3 [(0, .ref h0), (1, .int y1)] → fX11_bind_p187 v0_procedures v0_statements c1 c3 c4 c5 c6 c7 c9 c10 k105 y1 z0 z1 v0_wrong v0_wrongAt c2 c8 = some o → G 0 0 H locs (F0 m 187 ls [.int z0, .int z1, .ref h8]) := by
    intro k105 hk105 y1 z0 z1 v0_wrong v0_wrongAt c2 c8 H locs ls hP hD hS hl hf
    refine (hG _ _ _ _ _).mpr ?_
    unfold fX11_bind_p187 at hf
    have b1 := bd_in hf
    replace hf := bd_k hf
    obtain ⟨c1x, e1⟩ : ∃ y, y = upd c8 z1.toNatClampNeg z0 := ⟨_, rfl⟩
    replace hf := nm_at hf e1
    refine va_iast hx hb hK hP hD hS 8 7 rfl rfl b1 dX11_bind_187 (fun H locs hP hD hS => ?_)
    have hP : va_P (dC, dI) vwCl (wX11_bind h0 h1 h2 h3 h4 h5 h6 h7 h8 h9 h10 kc1 kc2 kc3 kc4 kc5 kc6 kc7 kc8 kc9 kc10 V0 v0_wrong v0_wrongAt v0_procedures v0_statements c1 c2 c3 c4 c5 c6 c7 c1x c9 c10) H := by rw [e1]; exact hP
    have hD : va_D A (wX11_bind h0 h1 h2 h3 h4 h5 h6 h7 h8 h9 h10 kc1 kc2 kc3 kc4 kc5 kc6 kc7 kc8 kc9 kc10 V0 v0_wrong v0_wrongAt v0_procedures v0_statements c1 c2 c3 c4 c5 c6 c7 c1x c9 c10) := by rw [e1]; exact hD
    obtain ⟨x2, e2⟩ : ∃ y : Int32, y = y1 + 1 := ⟨_, rfl⟩
    replace hf := nm_at hf e2
    refine lv_iinc (v := x2) (lv' := [(1, .int x2), (0, .ref h0)]) hx hb dX11_bind_188 hl (k := 1) rfl (by rw [e2]; rfl) (by decide) rfl (fun ls hl => ?_)
    refine lv_goto (tgt := 105) hx hb dX11_bind_191 (by decide) ?_
    exact (hG _ _ _ _ _).mp (hk105 x2 v0_wrong v0_wrongAt c2 c1x H locs ls (hP.sub [0, 1, 2, 3, 4, 5, 6, 7, 8, 9, 10] rfl) (hD.sub [0, 1, 2, 3, 4, 5, 6, 7, 8, 9, 10] (by decide) rfl) hS (lv_sub hl [1, 0] rfl) hf)
  have B105 : ∀ (k105 : Int32 → Int32 → Int32 → (Nat → Int32) → (Nat → Int32) → Option (Int32 × Int32 × Int32 × (Nat → Int32) × (Nat → Int32))) (hk105 : ∀ (y1 : Int32) (v0_wrong : Int32) (v0_wrongAt : Int32) (c2 : (Nat → Int32)) (c8 : (Nat → Int32)) (H : Heap) (locs : List Loc) (ls : Array Slot), va_P (dC, dI) vwCl (wX11_bind h0 h1 h2 h3 h4 h5 h6 h7 h8 h9 h10 kc1 kc2 kc3 kc4 kc5 kc6 kc7 kc8 kc9 kc10 V0 v0_wrong v0_wrongAt v0_procedures v0_statements c1 c2 c3 c4 c5 c6 c7 c8 c9 c10) H → va_D A (wX11_bind h0 h1 h2 h3 h4 h5 h6 h7 h8 h9 h10 kc1 kc2 kc3 kc4 kc5 kc6 kc7 kc8 kc9 kc10 V0 v0_wrong v0_wrongAt v0_procedures v0_statements c1 c2 c3 c4 c5 c6 c7 c8 c9 c10) → va_S A s.heap H locs → lv_has ls 3 [(0, .ref h0), (1, .int y1)] → k105 y1 v0_wrong v0_wrongAt c2 c8 = some o → G 0 0 H locs (F0 m 105 ls [])), ∀ (y1 : Int32) (v0_wrong : Int32) (v0_wrongAt : Int32) (c2 : (Nat → Int32)) (c8 : (Nat → Int32)) (H : Heap) (locs : List Loc) (ls : Array Slot), va_P (dC, dI) vwCl (wX11_bind h0 h1 h2 h3 h4 h5 h6 h7 h8 h9 h10 kc1 kc2 kc3 kc4 kc5 kc6 kc7 kc8 kc9 kc10 V0 v0_wrong v0_wrongAt v0_procedures v0_statements c1 c2 c3 c4 c5 c6 c7 c8 c9 c10) H → va_D A (wX11_bind h0 h1 h2 h3 h4 h5 h6 h7 h8 h9 h10 kc1 kc2 kc3 kc4 kc5 kc6 kc7 kc8 kc9 kc10 V0 v0_wrong v0_wrongAt v0_procedures v0_statements c1 c2 c3 c4 c5 c6 c7 c8 c9 c10) → va_S A s.heap H locs → lv_has ls 3 [(0, .ref h0), (1, .int y1)] → fX11_bind_b105 v0_procedures v0_statements c1 c3 c4 c5 c6 c7 c9 c10  k105 y1 v0_wrong v0_wrongAt c2 c8 = some o → G 0 0 H locs (F0 m 105 ls []) := by
    intro  k105 hk105 y1 v0_wrong v0_wrongAt c2 c8 H locs ls hP hD hS hl hf
    refine (hG _ _ _ _ _).mpr ?_
    unfold fX11_bind_b105 at hf
    refine lv_iload_n hx hb dX11_bind_105 rfl (lv_at hl 1 rfl) ?_
    refine lv_aload_n hx hb dX11_bind_106 rfl (lv_at hl 0 rfl) ?_
    refine va_get (D := (dC, dI)) (ci := 11) (v := .int v0_statements) (C := RX11) (T := TX11) (N := 71) hx hb hts inlX11 hown hK hP 0 rfl rfl 30 (by decide) w0_ (fun _ h9 => h9) rfl dX11_bind_107 ?_
    refine lv_icmp_ge (tgt := 194) hx hb dX11_bind_110 (by decide) (fun cq3 => ?_) (fun cq3 => ?_)
    · replace hf := if_at hf cq3
      refine lv_iconst (v := 1) hx hb dX11_bind_194 (by decide +kernel) ?_
      have hf1 := Option.some.inj hf
      subst hf1
      have hP9 := hP.sub (ws' := (wX11_bind h0 h1 h2 h3 h4 h5 h6 h7 h8 h9 h10 kc1 kc2 kc3 kc4 kc5 kc6 kc7 kc8 kc9 kc10 V0 v0_wrong v0_wrongAt v0_procedures v0_statements c1 c2 c3 c4 c5 c6 c7 c8 c9 c10)) [0, 1, 2, 3, 4, 5, 6, 7, 8, 9, 10] rfl
      have hD9 := hD.sub (ws' := (wX11_bind h0 h1 h2 h3 h4 h5 h6 h7 h8 h9 h10 kc1 kc2 kc3 kc4 kc5 kc6 kc7 kc8 kc9 kc10 V0 v0_wrong v0_wrongAt v0_procedures v0_statements c1 c2 c3 c4 c5 c6 c7 c8 c9 c10)) [0, 1, 2, 3, 4, 5, 6, 7, 8, 9, 10] (by decide) rfl
      exact W.zret (v := 1) (ty := .boolean) hx hb hr rfl (fun t ht hW => ⟨⟨1, (v0_wrong, v0_wrongAt, c2, c8), rfl, ⟨rfl, rfl⟩, by rw [ht]; exact hP9, va_K.moved hW.alike hK, hD9⟩, hS.F ht⟩) hS.2.2 dX11_bind_195
    · replace hf := if_no hf cq3
      refine lv_aload_n hx hb dX11_bind_113 rfl (lv_at hl 0 rfl) ?_
      refine va_get (D := (dC, dI)) (ci := 11) (v := .ref h6) (C := RX11) (T := TX11) (N := 71) hx hb hts inlX11 hown hK hP 0 rfl rfl 43 (by decide) w1_ (fun _ h9 => h9) rfl dX11_bind_114 ?_
      refine lv_iload_n hx hb dX11_bind_117 rfl (lv_at hl 1 rfl) ?_
      have b4 := bd_in hf
      replace hf := bd_k hf
      refine va_iald hx hb hK hP 6 5 rfl rfl b4 dX11_bind_118 ?_
      refine lv_topi (fun x5 e5 => ?_)
      replace hf := nm_at hf e5
      refine lv_istore_n (lv' := [(2, .int x5), (0, .ref h0), (1, .int y1)]) hx hb dX11_bind_119 rfl hl (by decide) rfl (fun ls hl => ?_)
      refine lv_aload_n hx hb dX11_bind_120 rfl (lv_at hl 1 rfl) ?_
      refine va_get (D := (dC, dI)) (ci := 11) (v := .ref h8) (C := RX11) (T := TX11) (N := 71) hx hb hts inlX11 hown hK hP 0 rfl rfl 41 (by decide) w2_ (fun _ h9 => h9) rfl dX11_bind_121 ?_
      refine lv_iload_n hx hb dX11_bind_124 rfl (lv_at hl 2 rfl) ?_
      refine lv_aload_n hx hb dX11_bind_125 rfl (lv_at hl 1 rfl) ?_
      refine va_get (D := (dC, dI)) (ci := 11) (v := .ref h7) (C := RX11) (T := TX11) (N := 71) hx hb hts inlX11 hown hK hP 0 rfl rfl 42 (by decide) w3_ (fun _ h9 => h9) rfl dX11_bind_126 ?_
      refine lv_iload_n hx hb dX11_bind_129 rfl (lv_at hl 2 rfl) ?_
      have b6 := bd_in hf
      replace hf := bd_k hf
      refine va_iald hx hb hK hP 7 6 rfl rfl b6 dX11_bind_130 ?_
      refine lv_topi (fun x7 e7 => ?_)
      replace hf := nm_at hf e7
      refine lv_iconst (v := (-1)) hx hb dX11_bind_131 (by decide +kernel) ?_
      refine lv_icmp_eq (tgt := 144) hx hb dX11_bind_132 (by decide) (fun cq8 => ?_) (fun cq8 => ?_)
      · replace hf := if_at hf cq8
        refine lv_aload_n hx hb dX11_bind_144 rfl (lv_at hl 1 rfl) ?_
        refine va_get (D := (dC, dI)) (ci := 11) (v := .ref h9) (C := RX11) (T := TX11) (N := 71) hx hb hts inlX11 hown hK hP 0 rfl rfl 52 (by decide) w4_ (fun _ h9 => h9) rfl dX11_bind_145 ?_
        refine lv_iload_n hx hb dX11_bind_148 rfl (lv_at hl 0 rfl) ?_
        have b9 := bd_in hf
        replace hf := bd_k hf
        refine va_iald hx hb hK hP 9 8 rfl rfl b9 dX11_bind_149 ?_
        refine lv_topi (fun x10 e10 => ?_)
        replace hf := nm_at hf e10
        refine lv_if_ne (tgt := 157) hx hb dX11_bind_150 (by decide) (fun cq11 => ?_) (fun cq11 => ?_)
        · replace hf := if_no hf cq11
          refine lv_aload_n hx hb dX11_bind_157 rfl (lv_at hl 1 rfl) ?_
          refine va_get (D := (dC, dI)) (ci := 11) (v := .ref h9) (C := RX11) (T := TX11) (N := 71) hx hb hts inlX11 hown hK hP 0 rfl rfl 52 (by decide) w4_ (fun _ h9 => h9) rfl dX11_bind_158 ?_
          refine lv_iload_n hx hb dX11_bind_161 rfl (lv_at hl 0 rfl) ?_
          have b12 := bd_in hf
          replace hf := bd_k hf
          refine va_iald hx hb hK hP 9 8 rfl rfl b12 dX11_bind_162 ?_
          refine lv_topi (fun x13 e13 => ?_)
          replace hf := nm_at hf e13
          refine lv_iconst (v := 3) hx hb dX11_bind_163 (by decide +kernel) ?_
          refine lv_icmp_ne (tgt := 176) hx hb dX11_bind_164 (by decide) (fun cq14 => ?_) (fun cq14 => ?_)
          · replace hf := if_no hf cq14
            refine lv_aload_n hx hb dX11_bind_176 rfl (lv_at hl 1 rfl) ?_
            refine va_get (D := (dC, dI)) (ci := 11) (v := .ref h8) (C := RX11) (T := TX11) (N := 71) hx hb hts inlX11 hown hK hP 0 rfl rfl 41 (by decide) w2_ (fun _ h9 => h9) rfl dX11_bind_177 ?_
            refine lv_aload_n hx hb dX11_bind_180 rfl (lv_at hl 1 rfl) ?_
            refine va_get (D := (dC, dI)) (ci := 11) (v := .ref h10) (C := RX11) (T := TX11) (N := 71) hx hb hts inlX11 hown hK hP 0 rfl rfl 51 (by decide) w5_ (fun _ h9 => h9) rfl dX11_bind_181 ?_
            refine lv_iload_n hx hb dX11_bind_184 rfl (lv_at hl 0 rfl) ?_
            have b15 := bd_in hf
            replace hf := bd_k hf
            refine va_iald hx hb hK hP 10 9 rfl rfl b15 dX11_bind_185 ?_
            refine lv_topi (fun x16 e16 => ?_)
            replace hf := nm_at hf e16
            have b17 := bd_in hf
            replace hf := bd_k hf
            refine va_iald hx hb hK hP 8 7 rfl rfl b17 dX11_bind_186 ?_
            refine lv_topi (fun x18 e18 => ?_)
            replace hf := nm_at hf e18
            exact (hG _ _ _ _ _).mp (J187 k105 hk105 y1 x18 y1 v0_wrong v0_wrongAt c2 c8 H locs ls (hP.sub [0, 1, 2, 3, 4, 5, 6, 7, 8, 9, 10] rfl) (hD.sub [0, 1, 2, 3, 4, 5, 6, 7, 8, 9, 10] (by decide) rfl) hS (lv_sub hl [1, 2] rfl) hf)
          · replace hf := if_at hf cq14
            refine lv_aload_n hx hb dX11_bind_167 rfl (lv_at hl 1 rfl) ?_
            refine va_get (D := (dC, dI)) (ci := 11) (v := .ref h10) (C := RX11) (T := TX11) (N := 71) hx hb hts inlX11 hown hK hP 0 rfl rfl 51 (by decide) w5_ (fun _ h9 => h9) rfl dX11_bind_168 ?_
            refine lv_iload_n hx hb dX11_bind_171 rfl (lv_at hl 0 rfl) ?_
            have b19 := bd_in hf
            replace hf := bd_k hf
            refine va_iald hx hb hK hP 10 9 rfl rfl b19 dX11_bind_172 ?_
            refine lv_topi (fun x20 e20 => ?_)
            replace hf := nm_at hf e20
            refine lv_goto (tgt := 187) hx hb dX11_bind_173 (by decide) ?_
            exact (hG _ _ _ _ _).mp (J187 k105 hk105 y1 x20 y1 v0_wrong v0_wrongAt c2 c8 H locs ls (hP.sub [0, 1, 2, 3, 4, 5, 6, 7, 8, 9, 10] rfl) (hD.sub [0, 1, 2, 3, 4, 5, 6, 7, 8, 9, 10] (by decide) rfl) hS (lv_sub hl [1, 2] rfl) hf)
        · replace hf := if_at hf cq11
          refine lv_iconst (v := (-1)) hx hb dX11_bind_153 (by decide +kernel) ?_
          refine lv_goto (tgt := 187) hx hb dX11_bind_154 (by decide) ?_
          exact (hG _ _ _ _ _).mp (J187 k105 hk105 y1 (-1) y1 v0_wrong v0_wrongAt c2 c8 H locs ls (hP.sub [0, 1, 2, 3, 4, 5, 6, 7, 8, 9, 10] rfl) (hD.sub [0, 1, 2, 3, 4, 5, 6, 7, 8, 9, 10] (by decide) rfl) hS (lv_sub hl [1, 2] rfl) hf)
      · replace hf := if_no hf cq8
        refine lv_aload_n hx hb dX11_bind_135 rfl (lv_at hl 1 rfl) ?_
        refine va_get (D := (dC, dI)) (ci := 11) (v := .ref h7) (C := RX11) (T := TX11) (N := 71) hx hb hts inlX11 hown hK hP 0 rfl rfl 42 (by decide) w3_ (fun _ h9 => h9) rfl dX11_bind_136 ?_
        refine lv_iload_n hx hb dX11_bind_139 rfl (lv_at hl 2 rfl) ?_
        have b21 := bd_in hf
        replace hf := bd_k hf
        refine va_iald hx hb hK hP 7 6 rfl rfl b21 dX11_bind_140 ?_
        refine lv_topi (fun x22 e22 => ?_)
        replace hf := nm_at hf e22
        refine lv_goto (tgt := 187) hx hb dX11_bind_141 (by decide) ?_
        exact (hG _ _ _ _ _).mp (J187 k105 hk105 y1 x22 y1 v0_wrong v0_wrongAt c2 c8 H locs ls (hP.sub [0, 1, 2, 3, 4, 5, 6, 7, 8, 9, 10] rfl) (hD.sub [0, 1, 2, 3, 4, 5, 6, 7, 8, 9, 10] (by decide) rfl) hS (lv_sub hl [1, 2] rfl) hf)
  have L105 : ∀ (n : Nat), ∀ (y1 : Int32) (v0_wrong : Int32) (v0_wrongAt : Int32) (c2 : (Nat → Int32)) (c8 : (Nat → Int32)) (H : Heap) (locs : List Loc) (ls : Array Slot), va_P (dC, dI) vwCl (wX11_bind h0 h1 h2 h3 h4 h5 h6 h7 h8 h9 h10 kc1 kc2 kc3 kc4 kc5 kc6 kc7 kc8 kc9 kc10 V0 v0_wrong v0_wrongAt v0_procedures v0_statements c1 c2 c3 c4 c5 c6 c7 c8 c9 c10) H → va_D A (wX11_bind h0 h1 h2 h3 h4 h5 h6 h7 h8 h9 h10 kc1 kc2 kc3 kc4 kc5 kc6 kc7 kc8 kc9 kc10 V0 v0_wrong v0_wrongAt v0_procedures v0_statements c1 c2 c3 c4 c5 c6 c7 c8 c9 c10) → va_S A s.heap H locs → lv_has ls 3 [(0, .ref h0), (1, .int y1)] → fX11_bind_l105 v0_procedures v0_statements c1 c3 c4 c5 c6 c7 c9 c10  n y1 v0_wrong v0_wrongAt c2 c8 = some o → G 0 0 H locs (F0 m 105 ls []) := by
    intro  n
    induction n with
    | zero => intro y1 v0_wrong v0_wrongAt c2 c8 H locs ls _ _ _ _ hf; cases hf
    | succ n ih => exact B105  _ ih
  have J97 : ∀ (k2 : Int32 → Int32 → Int32 → (Nat → Int32) → (Nat → Int32) → Option (Int32 × Int32 × Int32 × (Nat → Int32) × (Nat → Int32))) (hk2 : ∀ (y1 : Int32) (v0_wrong : Int32) (v0_wrongAt : Int32) (c2 : (Nat → Int32)) (c8 : (Nat → Int32)) (H : Heap) (locs : List Loc) (ls : Array Slot), va_P (dC, dI) vwCl (wX11_bind h0 h1 h2 h3 h4 h5 h6 h7 h8 h9 h10 kc1 kc2 kc3 kc4 kc5 kc6 kc7 kc8 kc9 kc10 V0 v0_wrong v0_wrongAt v0_procedures v0_statements c1 c2 c3 c4 c5 c6 c7 c8 c9 c10) H → va_D A (wX11_bind h0 h1 h2 h3 h4 h5 h6 h7 h8 h9 h10 kc1 kc2 kc3 kc4 kc5 kc6 kc7 kc8 kc9 kc10 V0 v0_wrong v0_wrongAt v0_procedures v0_statements c1 c2 c3 c4 c5 c6 c7 c8 c9 c10) → va_S A s.heap H locs → lv_has ls 3 [(0, .ref h0), (1, .int y1)] → k2 y1 v0_wrong v0_wrongAt c2 c8 = some o → G 0 0 H locs (F0 m 2 ls [])), ∀ (y1 : Int32) (v0_wrong : Int32) (v0_wrongAt : Int32) (c2 : (Nat → Int32)) (c8 : (Nat → Int32)) (H : Heap) (locs : List Loc) (ls : Array Slot), va_P (dC, dI) vwCl (wX11_bind h0 h1 h2 h3 h4 h5 h6 h7 h8 h9 h10 kc1 kc2 kc3 kc4 kc5 kc6 kc7 kc8 kc9 kc10 V0 v0_wrong v0_wrongAt v0_procedures v0_statements c1 c2 c3 c4 c5 c6 c7 c8 c9 c10) H → va_D A (wX11_bind h0 h1 h2 h3 h4 h5 h6 h7 h8 h9 h10 kc1 kc2 kc3 kc4 kc5 kc6 kc7 kc8 kc9 kc10 V0 v0_wrong v0_wrongAt v0_procedures v0_statements c1 c2 c3 c4 c5 c6 c7 c8 c9 c10) → va_S A s.heap H locs → lv_has ls 3 [(0, .ref h0), (1, .int y1)] → fX11_bind_p97 v0_procedures v0_statements c1 c3 c4 c5 c6 c7 c9 c10 k2 y1 v0_wrong v0_wrongAt c2 c8 = some o → G 0 0 H locs (F0 m 97 ls []) := by
    intro k2 hk2 y1 v0_wrong v0_wrongAt c2 c8 H locs ls hP hD hS hl hf
    refine (hG _ _ _ _ _).mpr ?_
    unfold fX11_bind_p97 at hf
    obtain ⟨x23, e23⟩ : ∃ y : Int32, y = y1 + 1 := ⟨_, rfl⟩
    replace hf := nm_at hf e23
    refine lv_iinc (v := x23) (lv' := [(1, .int x23), (0, .ref h0)]) hx hb dX11_bind_97 hl (k := 1) rfl (by rw [e23]; rfl) (by decide) rfl (fun ls hl => ?_)
    refine lv_goto (tgt := 2) hx hb dX11_bind_100 (by decide) ?_
    exact (hG _ _ _ _ _).mp (hk2 x23 v0_wrong v0_wrongAt c2 c8 H locs ls (hP.sub [0, 1, 2, 3, 4, 5, 6, 7, 8, 9, 10] rfl) (hD.sub [0, 1, 2, 3, 4, 5, 6, 7, 8, 9, 10] (by decide) rfl) hS (lv_sub hl [1, 0] rfl) hf)
  have J68 : ∀ (k2 : Int32 → Int32 → Int32 → (Nat → Int32) → (Nat → Int32) → Option (Int32 × Int32 × Int32 × (Nat → Int32) × (Nat → Int32))) (hk2 : ∀ (y1 : Int32) (v0_wrong : Int32) (v0_wrongAt : Int32) (c2 : (Nat → Int32)) (c8 : (Nat → Int32)) (H : Heap) (locs : List Loc) (ls : Array Slot), va_P (dC, dI) vwCl (wX11_bind h0 h1 h2 h3 h4 h5 h6 h7 h8 h9 h10 kc1 kc2 kc3 kc4 kc5 kc6 kc7 kc8 kc9 kc10 V0 v0_wrong v0_wrongAt v0_procedures v0_statements c1 c2 c3 c4 c5 c6 c7 c8 c9 c10) H → va_D A (wX11_bind h0 h1 h2 h3 h4 h5 h6 h7 h8 h9 h10 kc1 kc2 kc3 kc4 kc5 kc6 kc7 kc8 kc9 kc10 V0 v0_wrong v0_wrongAt v0_procedures v0_statements c1 c2 c3 c4 c5 c6 c7 c8 c9 c10) → va_S A s.heap H locs → lv_has ls 3 [(0, .ref h0), (1, .int y1)] → k2 y1 v0_wrong v0_wrongAt c2 c8 = some o → G 0 0 H locs (F0 m 2 ls [])) (k29 : Int32 → Int32 → Int32 → Int32 → (Nat → Int32) → (Nat → Int32) → Option (Int32 × Int32 × Int32 × (Nat → Int32) × (Nat → Int32))) (hk29 : ∀ (y1 : Int32) (y2 : Int32) (v0_wrong : Int32) (v0_wrongAt : Int32) (c2 : (Nat → Int32)) (c8 : (Nat → Int32)) (H : Heap) (locs : List Loc) (ls : Array Slot), va_P (dC, dI) vwCl (wX11_bind h0 h1 h2 h3 h4 h5 h6 h7 h8 h9 h10 kc1 kc2 kc3 kc4 kc5 kc6 kc7 kc8 kc9 kc10 V0 v0_wrong v0_wrongAt v0_procedures v0_statements c1 c2 c3 c4 c5 c6 c7 c8 c9 c10) H → va_D A (wX11_bind h0 h1 h2 h3 h4 h5 h6 h7 h8 h9 h10 kc1 kc2 kc3 kc4 kc5 kc6 kc7 kc8 kc9 kc10 V0 v0_wrong v0_wrongAt v0_procedures v0_statements c1 c2 c3 c4 c5 c6 c7 c8 c9 c10) → va_S A s.heap H locs → lv_has ls 3 [(0, .ref h0), (1, .int y1), (2, .int y2)] → k29 y1 y2 v0_wrong v0_wrongAt c2 c8 = some o → G 0 0 H locs (F0 m 29 ls [])), ∀ (y1 : Int32) (y2 : Int32) (z0 : Int32) (z1 : Int32) (v0_wrong : Int32) (v0_wrongAt : Int32) (c2 : (Nat → Int32)) (c8 : (Nat → Int32)) (H : Heap) (locs : List Loc) (ls : Array Slot), va_P (dC, dI) vwCl (wX11_bind h0 h1 h2 h3 h4 h5 h6 h7 h8 h9 h10 kc1 kc2 kc3 kc4 kc5 kc6 kc7 kc8 kc9 kc10 V0 v0_wrong v0_wrongAt v0_procedures v0_statements c1 c2 c3 c4 c5 c6 c7 c8 c9 c10) H → va_D A (wX11_bind h0 h1 h2 h3 h4 h5 h6 h7 h8 h9 h10 kc1 kc2 kc3 kc4 kc5 kc6 kc7 kc8 kc9 kc10 V0 v0_wrong v0_wrongAt v0_procedures v0_statements c1 c2 c3 c4 c5 c6 c7 c8 c9 c10) → va_S A s.heap H locs → lv_has ls 3 [(0, .ref h0), (1, .int y1), (2, .int y2)] → fX11_bind_p68 v0_procedures v0_statements c1 c3 c4 c5 c6 c7 c9 c10 k2 k29 y1 y2 z0 z1 v0_wrong v0_wrongAt c2 c8 = some o → G 0 0 H locs (F0 m 68 ls [.int z0, .int z1, .ref h2]) := by
    intro k2 hk2 k29 hk29 y1 y2 z0 z1 v0_wrong v0_wrongAt c2 c8 H locs ls hP hD hS hl hf
    refine (hG _ _ _ _ _).mpr ?_
    unfold fX11_bind_p68 at hf
    have b24 := bd_in hf
    replace hf := bd_k hf
    obtain ⟨c24x, e24⟩ : ∃ y, y = upd c2 z1.toNatClampNeg z0 := ⟨_, rfl⟩
    replace hf := nm_at hf e24
    refine va_iast hx hb hK hP hD hS 2 1 rfl rfl b24 dX11_bind_68 (fun H locs hP hD hS => ?_)
    have hP : va_P (dC, dI) vwCl (wX11_bind h0 h1 h2 h3 h4 h5 h6 h7 h8 h9 h10 kc1 kc2 kc3 kc4 kc5 kc6 kc7 kc8 kc9 kc10 V0 v0_wrong v0_wrongAt v0_procedures v0_statements c1 c24x c3 c4 c5 c6 c7 c8 c9 c10) H := by rw [e24]; exact hP
    have hD : va_D A (wX11_bind h0 h1 h2 h3 h4 h5 h6 h7 h8 h9 h10 kc1 kc2 kc3 kc4 kc5 kc6 kc7 kc8 kc9 kc10 V0 v0_wrong v0_wrongAt v0_procedures v0_statements c1 c24x c3 c4 c5 c6 c7 c8 c9 c10) := by rw [e24]; exact hD
    obtain ⟨x25, e25⟩ : ∃ y : Int32, y = y2 + 1 := ⟨_, rfl⟩
    replace hf := nm_at hf e25
    refine lv_iinc (v := x25) (lv' := [(2, .int x25), (0, .ref h0), (1, .int y1)]) hx hb dX11_bind_69 hl (k := 2) rfl (by rw [e25]; rfl) (by decide) rfl (fun ls hl => ?_)
    refine lv_goto (tgt := 29) hx hb dX11_bind_72 (by decide) ?_
    exact (hG _ _ _ _ _).mp (hk29 y1 x25 v0_wrong v0_wrongAt c24x c8 H locs ls (hP.sub [0, 1, 2, 3, 4, 5, 6, 7, 8, 9, 10] rfl) (hD.sub [0, 1, 2, 3, 4, 5, 6, 7, 8, 9, 10] (by decide) rfl) hS (lv_sub hl [1, 2, 0] rfl) hf)
  have B29 : ∀ (k2 : Int32 → Int32 → Int32 → (Nat → Int32) → (Nat → Int32) → Option (Int32 × Int32 × Int32 × (Nat → Int32) × (Nat → Int32))) (hk2 : ∀ (y1 : Int32) (v0_wrong : Int32) (v0_wrongAt : Int32) (c2 : (Nat → Int32)) (c8 : (Nat → Int32)) (H : Heap) (locs : List Loc) (ls : Array Slot), va_P (dC, dI) vwCl (wX11_bind h0 h1 h2 h3 h4 h5 h6 h7 h8 h9 h10 kc1 kc2 kc3 kc4 kc5 kc6 kc7 kc8 kc9 kc10 V0 v0_wrong v0_wrongAt v0_procedures v0_statements c1 c2 c3 c4 c5 c6 c7 c8 c9 c10) H → va_D A (wX11_bind h0 h1 h2 h3 h4 h5 h6 h7 h8 h9 h10 kc1 kc2 kc3 kc4 kc5 kc6 kc7 kc8 kc9 kc10 V0 v0_wrong v0_wrongAt v0_procedures v0_statements c1 c2 c3 c4 c5 c6 c7 c8 c9 c10) → va_S A s.heap H locs → lv_has ls 3 [(0, .ref h0), (1, .int y1)] → k2 y1 v0_wrong v0_wrongAt c2 c8 = some o → G 0 0 H locs (F0 m 2 ls [])) (k29 : Int32 → Int32 → Int32 → Int32 → (Nat → Int32) → (Nat → Int32) → Option (Int32 × Int32 × Int32 × (Nat → Int32) × (Nat → Int32))) (hk29 : ∀ (y1 : Int32) (y2 : Int32) (v0_wrong : Int32) (v0_wrongAt : Int32) (c2 : (Nat → Int32)) (c8 : (Nat → Int32)) (H : Heap) (locs : List Loc) (ls : Array Slot), va_P (dC, dI) vwCl (wX11_bind h0 h1 h2 h3 h4 h5 h6 h7 h8 h9 h10 kc1 kc2 kc3 kc4 kc5 kc6 kc7 kc8 kc9 kc10 V0 v0_wrong v0_wrongAt v0_procedures v0_statements c1 c2 c3 c4 c5 c6 c7 c8 c9 c10) H → va_D A (wX11_bind h0 h1 h2 h3 h4 h5 h6 h7 h8 h9 h10 kc1 kc2 kc3 kc4 kc5 kc6 kc7 kc8 kc9 kc10 V0 v0_wrong v0_wrongAt v0_procedures v0_statements c1 c2 c3 c4 c5 c6 c7 c8 c9 c10) → va_S A s.heap H locs → lv_has ls 3 [(0, .ref h0), (1, .int y1), (2, .int y2)] → k29 y1 y2 v0_wrong v0_wrongAt c2 c8 = some o → G 0 0 H locs (F0 m 29 ls [])), ∀ (y1 : Int32) (y2 : Int32) (v0_wrong : Int32) (v0_wrongAt : Int32) (c2 : (Nat → Int32)) (c8 : (Nat → Int32)) (H : Heap) (locs : List Loc) (ls : Array Slot), va_P (dC, dI) vwCl (wX11_bind h0 h1 h2 h3 h4 h5 h6 h7 h8 h9 h10 kc1 kc2 kc3 kc4 kc5 kc6 kc7 kc8 kc9 kc10 V0 v0_wrong v0_wrongAt v0_procedures v0_statements c1 c2 c3 c4 c5 c6 c7 c8 c9 c10) H → va_D A (wX11_bind h0 h1 h2 h3 h4 h5 h6 h7 h8 h9 h10 kc1 kc2 kc3 kc4 kc5 kc6 kc7 kc8 kc9 kc10 V0 v0_wrong v0_wrongAt v0_procedures v0_statements c1 c2 c3 c4 c5 c6 c7 c8 c9 c10) → va_S A s.heap H locs → lv_has ls 3 [(0, .ref h0), (1, .int y1), (2, .int y2)] → fX11_bind_b29 v0_procedures v0_statements c1 c3 c4 c5 c6 c7 c9 c10 k2 k29 y1 y2 v0_wrong v0_wrongAt c2 c8 = some o → G 0 0 H locs (F0 m 29 ls []) := by
    intro k2 hk2 k29 hk29 y1 y2 v0_wrong v0_wrongAt c2 c8 H locs ls hP hD hS hl hf
    refine (hG _ _ _ _ _).mpr ?_
    unfold fX11_bind_b29 at hf
    refine lv_iload_n hx hb dX11_bind_29 rfl (lv_at hl 2 rfl) ?_
    refine lv_aload_n hx hb dX11_bind_30 rfl (lv_at hl 0 rfl) ?_
    refine va_get (D := (dC, dI)) (ci := 11) (v := .int v0_procedures) (C := RX11) (T := TX11) (N := 71) hx hb hts inlX11 hown hK hP 0 rfl rfl 29 (by decide) w6_ (fun _ h9 => h9) rfl dX11_bind_31 ?_
    refine lv_icmp_ge (tgt := 75) hx hb dX11_bind_34 (by decide) (fun cq26 => ?_) (fun cq26 => ?_)
    · replace hf := if_at hf cq26
      refine lv_aload_n hx hb dX11_bind_75 rfl (lv_at hl 0 rfl) ?_
      refine va_get (D := (dC, dI)) (ci := 11) (v := .ref h2) (C := RX11) (T := TX11) (N := 71) hx hb hts inlX11 hown hK hP 0 rfl rfl 39 (by decide) w7_ (fun _ h9 => h9) rfl dX11_bind_76 ?_
      refine lv_iload_n hx hb dX11_bind_79 rfl (lv_at hl 1 rfl) ?_
      have b27 := bd_in hf
      replace hf := bd_k hf
      refine va_iald hx hb hK hP 2 1 rfl rfl b27 dX11_bind_80 ?_
      refine lv_topi (fun x28 e28 => ?_)
      replace hf := nm_at hf e28
      refine lv_iconst (v := (-1)) hx hb dX11_bind_81 (by decide +kernel) ?_
      refine lv_icmp_ne (tgt := 97) hx hb dX11_bind_82 (by decide) (fun cq29 => ?_) (fun cq29 => ?_)
      · replace hf := if_no hf cq29
        exact (hG _ _ _ _ _).mp (J97 k2 hk2 y1 v0_wrong v0_wrongAt c2 c8 H locs ls (hP.sub [0, 1, 2, 3, 4, 5, 6, 7, 8, 9, 10] rfl) (hD.sub [0, 1, 2, 3, 4, 5, 6, 7, 8, 9, 10] (by decide) rfl) hS (lv_sub hl [0, 1] rfl) hf)
      · replace hf := if_at hf cq29
        refine lv_aload_n hx hb dX11_bind_85 rfl (lv_at hl 0 rfl) ?_
        refine lv_iconst (v := 4) hx hb dX11_bind_86 (by decide +kernel) ?_
        refine lv_aload_n hx hb dX11_bind_87 rfl (lv_at hl 0 rfl) ?_
        refine va_get (D := (dC, dI)) (ci := 11) (v := .ref h5) (C := RX11) (T := TX11) (N := 71) hx hb hts inlX11 hown hK hP 0 rfl rfl 49 (by decide) w8_ (fun _ h9 => h9) rfl dX11_bind_88 ?_
        refine lv_iload_n hx hb dX11_bind_91 rfl (lv_at hl 1 rfl) ?_
        have b30 := bd_in hf
        replace hf := bd_k hf
        refine va_iald hx hb hK hP 5 4 rfl rfl b30 dX11_bind_92 ?_
        refine lv_topi (fun x31 e31 => ?_)
        replace hf := nm_at hf e31
        obtain ⟨o32, e32, hf⟩ := ob_some hf
        refine kVi (As := [.int 4, .int x31]) (rest := []) ⟨hx, hb, hml, hown, hts⟩ (mX11_fail l dC dI h0 H.size base 4 x31 v0_wrong v0_wrongAt (fun k => match k with | 29 => .int v0_procedures | 30 => .int v0_statements | 34 => .ref h3 | 36 => .ref h1 | 39 => .ref h2 | 41 => .ref h8 | 42 => .ref h7 | 43 => .ref h6 | 48 => .ref h4 | 49 => .ref h5 | 51 => .ref h10 | 52 => .ref h9 | k => V0 k) o32 e32) (cwV 2 hts (gTV q840 q841 q842 q5 q843) rfl rfl rfl (by decide +kernel) ⟨Nat.le_of_ble_eq_true rfl, Nat.le_of_ble_eq_true rfl⟩) hK hP hD hS hA hE hAB [0] [1, 2, 3, 4, 5, 6, 7, 8, 9, 10] [] (wr := [(h1, .inl (kc1, 40, .inl c1)), (h2, .inl (kc2, 40, .inl c2)), (h3, .inl (kc3, 6, .inr (.inl c3))), (h4, .inl (kc4, 40, .inr (.inl c4))), (h5, .inl (kc5, 40, .inl c5)), (h6, .inl (kc6, 40, .inl c6)), (h7, .inl (kc7, 40, .inl c7)), (h8, .inl (kc8, 40, .inl c8)), (h9, .inl (kc9, 90, .inl c9)), (h10, .inl (kc10, 90, .inl c10))]) rfl rfl (by decide) (by decide) (by decide) rfl (ci := 11) (q0 := 0) rfl rfl rfl rfl hl.1 rfl (Nat.le_of_ble_eq_true rfl) dX11_bind_93 ⟨Nat.zero_le _, Nat.zero_le _⟩ (fun r32 u32 H locs hw32 hP hD hS => ?_)
        obtain ⟨hw321, hw322⟩ := hw32
        subst hw321 hw322
        have hP : va_P (dC, dI) vwCl (wX11_bind h0 h1 h2 h3 h4 h5 h6 h7 h8 h9 h10 kc1 kc2 kc3 kc4 kc5 kc6 kc7 kc8 kc9 kc10 V0 o32.2.1 o32.2.2 v0_procedures v0_statements c1 c2 c3 c4 c5 c6 c7 c8 c9 c10) H := hP.sub [10, 0, 1, 2, 3, 4, 5, 6, 7, 8, 9] rfl
        have hD : va_D A (wX11_bind h0 h1 h2 h3 h4 h5 h6 h7 h8 h9 h10 kc1 kc2 kc3 kc4 kc5 kc6 kc7 kc8 kc9 kc10 V0 o32.2.1 o32.2.2 v0_procedures v0_statements c1 c2 c3 c4 c5 c6 c7 c8 c9 c10) := hD.sub [10, 0, 1, 2, 3, 4, 5, 6, 7, 8, 9] (by decide) rfl
        have b33 := bd_b hf
        replace hf := bd_k hf
        have hf1 := Option.some.inj hf
        subst hf1
        have hP9 := hP.sub (ws' := (wX11_bind h0 h1 h2 h3 h4 h5 h6 h7 h8 h9 h10 kc1 kc2 kc3 kc4 kc5 kc6 kc7 kc8 kc9 kc10 V0 o32.2.1 o32.2.2 v0_procedures v0_statements c1 c2 c3 c4 c5 c6 c7 c8 c9 c10)) [0, 1, 2, 3, 4, 5, 6, 7, 8, 9, 10] rfl
        have hD9 := hD.sub (ws' := (wX11_bind h0 h1 h2 h3 h4 h5 h6 h7 h8 h9 h10 kc1 kc2 kc3 kc4 kc5 kc6 kc7 kc8 kc9 kc10 V0 o32.2.1 o32.2.2 v0_procedures v0_statements c1 c2 c3 c4 c5 c6 c7 c8 c9 c10)) [0, 1, 2, 3, 4, 5, 6, 7, 8, 9, 10] (by decide) rfl
        exact W.zret (v := o32.1) (ty := .boolean) hx hb hr (bz_nar b33) (fun t ht hW => ⟨⟨o32.1, (o32.2.1, o32.2.2, c2, c8), rfl, ⟨rfl, rfl⟩, by rw [ht]; exact hP9, va_K.moved hW.alike hK, hD9⟩, hS.F ht⟩) hS.2.2 dX11_bind_96
    · replace hf := if_no hf cq26
      refine lv_aload_n hx hb dX11_bind_37 rfl (lv_at hl 0 rfl) ?_
      refine va_get (D := (dC, dI)) (ci := 11) (v := .ref h2) (C := RX11) (T := TX11) (N := 71) hx hb hts inlX11 hown hK hP 0 rfl rfl 39 (by decide) w7_ (fun _ h9 => h9) rfl dX11_bind_38 ?_
      refine lv_iload_n hx hb dX11_bind_41 rfl (lv_at hl 1 rfl) ?_
      refine lv_aload_n hx hb dX11_bind_42 rfl (lv_at hl 0 rfl) ?_
      refine va_get (D := (dC, dI)) (ci := 11) (v := .ref h3) (C := RX11) (T := TX11) (N := 71) hx hb hts inlX11 hown hK hP 0 rfl rfl 34 (by decide) w9_ (fun _ h9 => h9) rfl dX11_bind_43 ?_
      refine lv_iload_n hx hb dX11_bind_46 rfl (lv_at hl 2 rfl) ?_
      have b34 := bd_in hf
      replace hf := bd_k hf
      refine va_lald hx hb hK hP 3 2 rfl rfl b34 dX11_bind_47 ?_
      refine lv_topl (fun x35 e35 => ?_)
      replace hf := nm_at hf e35
      refine lv_aload_n hx hb dX11_bind_48 rfl (lv_at hl 0 rfl) ?_
      refine va_get (D := (dC, dI)) (ci := 11) (v := .ref h4) (C := RX11) (T := TX11) (N := 71) hx hb hts inlX11 hown hK hP 0 rfl rfl 48 (by decide) w10_ (fun _ h9 => h9) rfl dX11_bind_49 ?_
      refine lv_iload_n hx hb dX11_bind_52 rfl (lv_at hl 1 rfl) ?_
      have b36 := bd_in hf
      replace hf := bd_k hf
      refine va_lald hx hb hK hP 4 3 rfl rfl b36 dX11_bind_53 ?_
      refine lv_topl (fun x37 e37 => ?_)
      replace hf := nm_at hf e37
      refine W.lcmp hx hb dX11_bind_54 ?_
      refine lv_topi (fun x38 e38 => ?_)
      replace hf := nm_at hf e38
      refine lv_if_ne (tgt := 62) hx hb dX11_bind_55 (by decide) (fun cq39 => ?_) (fun cq39 => ?_)
      · replace hf := if_no hf cq39
        refine lv_aload_n hx hb dX11_bind_62 rfl (lv_at hl 0 rfl) ?_
        refine va_get (D := (dC, dI)) (ci := 11) (v := .ref h2) (C := RX11) (T := TX11) (N := 71) hx hb hts inlX11 hown hK hP 0 rfl rfl 39 (by decide) w7_ (fun _ h9 => h9) rfl dX11_bind_63 ?_
        refine lv_iload_n hx hb dX11_bind_66 rfl (lv_at hl 1 rfl) ?_
        have b40 := bd_in hf
        replace hf := bd_k hf
        refine va_iald hx hb hK hP 2 1 rfl rfl b40 dX11_bind_67 ?_
        refine lv_topi (fun x41 e41 => ?_)
        replace hf := nm_at hf e41
        exact (hG _ _ _ _ _).mp (J68 k2 hk2 k29 hk29 y1 y2 x41 y1 v0_wrong v0_wrongAt c2 c8 H locs ls (hP.sub [0, 1, 2, 3, 4, 5, 6, 7, 8, 9, 10] rfl) (hD.sub [0, 1, 2, 3, 4, 5, 6, 7, 8, 9, 10] (by decide) rfl) hS (lv_sub hl [0, 1, 2] rfl) hf)
      · replace hf := if_at hf cq39
        refine lv_iload_n hx hb dX11_bind_58 rfl (lv_at hl 2 rfl) ?_
        refine lv_goto (tgt := 68) hx hb dX11_bind_59 (by decide) ?_
        exact (hG _ _ _ _ _).mp (J68 k2 hk2 k29 hk29 y1 y2 y2 y1 v0_wrong v0_wrongAt c2 c8 H locs ls (hP.sub [0, 1, 2, 3, 4, 5, 6, 7, 8, 9, 10] rfl) (hD.sub [0, 1, 2, 3, 4, 5, 6, 7, 8, 9, 10] (by decide) rfl) hS (lv_sub hl [0, 1, 2] rfl) hf)
  have L29 : ∀ (k2 : Int32 → Int32 → Int32 → (Nat → Int32) → (Nat → Int32) → Option (Int32 × Int32 × Int32 × (Nat → Int32) × (Nat → Int32))) (hk2 : ∀ (y1 : Int32) (v0_wrong : Int32) (v0_wrongAt : Int32) (c2 : (Nat → Int32)) (c8 : (Nat → Int32)) (H : Heap) (locs : List Loc) (ls : Array Slot), va_P (dC, dI) vwCl (wX11_bind h0 h1 h2 h3 h4 h5 h6 h7 h8 h9 h10 kc1 kc2 kc3 kc4 kc5 kc6 kc7 kc8 kc9 kc10 V0 v0_wrong v0_wrongAt v0_procedures v0_statements c1 c2 c3 c4 c5 c6 c7 c8 c9 c10) H → va_D A (wX11_bind h0 h1 h2 h3 h4 h5 h6 h7 h8 h9 h10 kc1 kc2 kc3 kc4 kc5 kc6 kc7 kc8 kc9 kc10 V0 v0_wrong v0_wrongAt v0_procedures v0_statements c1 c2 c3 c4 c5 c6 c7 c8 c9 c10) → va_S A s.heap H locs → lv_has ls 3 [(0, .ref h0), (1, .int y1)] → k2 y1 v0_wrong v0_wrongAt c2 c8 = some o → G 0 0 H locs (F0 m 2 ls [])) (n : Nat), ∀ (y1 : Int32) (y2 : Int32) (v0_wrong : Int32) (v0_wrongAt : Int32) (c2 : (Nat → Int32)) (c8 : (Nat → Int32)) (H : Heap) (locs : List Loc) (ls : Array Slot), va_P (dC, dI) vwCl (wX11_bind h0 h1 h2 h3 h4 h5 h6 h7 h8 h9 h10 kc1 kc2 kc3 kc4 kc5 kc6 kc7 kc8 kc9 kc10 V0 v0_wrong v0_wrongAt v0_procedures v0_statements c1 c2 c3 c4 c5 c6 c7 c8 c9 c10) H → va_D A (wX11_bind h0 h1 h2 h3 h4 h5 h6 h7 h8 h9 h10 kc1 kc2 kc3 kc4 kc5 kc6 kc7 kc8 kc9 kc10 V0 v0_wrong v0_wrongAt v0_procedures v0_statements c1 c2 c3 c4 c5 c6 c7 c8 c9 c10) → va_S A s.heap H locs → lv_has ls 3 [(0, .ref h0), (1, .int y1), (2, .int y2)] → fX11_bind_l29 v0_procedures v0_statements c1 c3 c4 c5 c6 c7 c9 c10 k2 n y1 y2 v0_wrong v0_wrongAt c2 c8 = some o → G 0 0 H locs (F0 m 29 ls []) := by
    intro k2 hk2 n
    induction n with
    | zero => intro y1 y2 v0_wrong v0_wrongAt c2 c8 H locs ls _ _ _ _ hf; cases hf
    | succ n ih => exact B29 k2 hk2 _ ih
  have B2 : ∀ (k2 : Int32 → Int32 → Int32 → (Nat → Int32) → (Nat → Int32) → Option (Int32 × Int32 × Int32 × (Nat → Int32) × (Nat → Int32))) (hk2 : ∀ (y1 : Int32) (v0_wrong : Int32) (v0_wrongAt : Int32) (c2 : (Nat → Int32)) (c8 : (Nat → Int32)) (H : Heap) (locs : List Loc) (ls : Array Slot), va_P (dC, dI) vwCl (wX11_bind h0 h1 h2 h3 h4 h5 h6 h7 h8 h9 h10 kc1 kc2 kc3 kc4 kc5 kc6 kc7 kc8 kc9 kc10 V0 v0_wrong v0_wrongAt v0_procedures v0_statements c1 c2 c3 c4 c5 c6 c7 c8 c9 c10) H → va_D A (wX11_bind h0 h1 h2 h3 h4 h5 h6 h7 h8 h9 h10 kc1 kc2 kc3 kc4 kc5 kc6 kc7 kc8 kc9 kc10 V0 v0_wrong v0_wrongAt v0_procedures v0_statements c1 c2 c3 c4 c5 c6 c7 c8 c9 c10) → va_S A s.heap H locs → lv_has ls 3 [(0, .ref h0), (1, .int y1)] → k2 y1 v0_wrong v0_wrongAt c2 c8 = some o → G 0 0 H locs (F0 m 2 ls [])), ∀ (y1 : Int32) (v0_wrong : Int32) (v0_wrongAt : Int32) (c2 : (Nat → Int32)) (c8 : (Nat → Int32)) (H : Heap) (locs : List Loc) (ls : Array Slot), va_P (dC, dI) vwCl (wX11_bind h0 h1 h2 h3 h4 h5 h6 h7 h8 h9 h10 kc1 kc2 kc3 kc4 kc5 kc6 kc7 kc8 kc9 kc10 V0 v0_wrong v0_wrongAt v0_procedures v0_statements c1 c2 c3 c4 c5 c6 c7 c8 c9 c10) H → va_D A (wX11_bind h0 h1 h2 h3 h4 h5 h6 h7 h8 h9 h10 kc1 kc2 kc3 kc4 kc5 kc6 kc7 kc8 kc9 kc10 V0 v0_wrong v0_wrongAt v0_procedures v0_statements c1 c2 c3 c4 c5 c6 c7 c8 c9 c10) → va_S A s.heap H locs → lv_has ls 3 [(0, .ref h0), (1, .int y1)] → fX11_bind_b2 v0_procedures v0_statements c1 c3 c4 c5 c6 c7 c9 c10  k2 y1 v0_wrong v0_wrongAt c2 c8 = some o → G 0 0 H locs (F0 m 2 ls []) := by
    intro  k2 hk2 y1 v0_wrong v0_wrongAt c2 c8 H locs ls hP hD hS hl hf
    refine (hG _ _ _ _ _).mpr ?_
    unfold fX11_bind_b2 at hf
    refine lv_iload_n hx hb dX11_bind_2 rfl (lv_at hl 1 rfl) ?_
    refine lv_aload_n hx hb dX11_bind_3 rfl (lv_at hl 0 rfl) ?_
    refine va_get (D := (dC, dI)) (ci := 11) (v := .int v0_statements) (C := RX11) (T := TX11) (N := 71) hx hb hts inlX11 hown hK hP 0 rfl rfl 30 (by decide) w0_ (fun _ h9 => h9) rfl dX11_bind_4 ?_
    refine lv_icmp_ge (tgt := 103) hx hb dX11_bind_7 (by decide) (fun cq42 => ?_) (fun cq42 => ?_)
    · replace hf := if_at hf cq42
      refine lv_iconst (v := 0) hx hb dX11_bind_103 (by decide +kernel) ?_
      refine lv_istore_n (lv' := [(1, .int 0), (0, .ref h0)]) hx hb dX11_bind_104 rfl hl (by decide) rfl (fun ls hl => ?_)
      exact (hG _ _ _ _ _).mp (L105 FU 0 v0_wrong v0_wrongAt c2 c8 H locs ls (hP.sub [0, 1, 2, 3, 4, 5, 6, 7, 8, 9, 10] rfl) (hD.sub [0, 1, 2, 3, 4, 5, 6, 7, 8, 9, 10] (by decide) rfl) hS (lv_sub hl [1, 0] rfl) hf)
    · replace hf := if_no hf cq42
      refine lv_aload_n hx hb dX11_bind_10 rfl (lv_at hl 0 rfl) ?_
      refine va_get (D := (dC, dI)) (ci := 11) (v := .ref h1) (C := RX11) (T := TX11) (N := 71) hx hb hts inlX11 hown hK hP 0 rfl rfl 36 (by decide) w11_ (fun _ h9 => h9) rfl dX11_bind_11 ?_
      refine lv_iload_n hx hb dX11_bind_14 rfl (lv_at hl 1 rfl) ?_
      have b43 := bd_in hf
      replace hf := bd_k hf
      refine va_iald hx hb hK hP 1 0 rfl rfl b43 dX11_bind_15 ?_
      refine lv_topi (fun x44 e44 => ?_)
      replace hf := nm_at hf e44
      refine lv_iconst (v := 3) hx hb dX11_bind_16 (by decide +kernel) ?_
      refine lv_icmp_ne (tgt := 97) hx hb dX11_bind_17 (by decide) (fun cq45 => ?_) (fun cq45 => ?_)
      · replace hf := if_no hf cq45
        exact (hG _ _ _ _ _).mp (J97 k2 hk2 y1 v0_wrong v0_wrongAt c2 c8 H locs ls (hP.sub [0, 1, 2, 3, 4, 5, 6, 7, 8, 9, 10] rfl) (hD.sub [0, 1, 2, 3, 4, 5, 6, 7, 8, 9, 10] (by decide) rfl) hS (lv_sub hl [0, 1] rfl) hf)
      · replace hf := if_at hf cq45
        refine lv_aload_n hx hb dX11_bind_20 rfl (lv_at hl 0 rfl) ?_
        refine va_get (D := (dC, dI)) (ci := 11) (v := .ref h2) (C := RX11) (T := TX11) (N := 71) hx hb hts inlX11 hown hK hP 0 rfl rfl 39 (by decide) w7_ (fun _ h9 => h9) rfl dX11_bind_21 ?_
        refine lv_iload_n hx hb dX11_bind_24 rfl (lv_at hl 1 rfl) ?_
        refine lv_iconst (v := (-1)) hx hb dX11_bind_25 (by decide +kernel) ?_
        have b46 := bd_in hf
        replace hf := bd_k hf
        obtain ⟨c46x, e46⟩ : ∃ y, y = upd c2 y1.toNatClampNeg (-1) := ⟨_, rfl⟩
        replace hf := nm_at hf e46
        refine va_iast hx hb hK hP hD hS 2 1 rfl rfl b46 dX11_bind_26 (fun H locs hP hD hS => ?_)
        have hP : va_P (dC, dI) vwCl (wX11_bind h0 h1 h2 h3 h4 h5 h6 h7 h8 h9 h10 kc1 kc2 kc3 kc4 kc5 kc6 kc7 kc8 kc9 kc10 V0 v0_wrong v0_wrongAt v0_procedures v0_statements c1 c46x c3 c4 c5 c6 c7 c8 c9 c10) H := by rw [e46]; exact hP
        have hD : va_D A (wX11_bind h0 h1 h2 h3 h4 h5 h6 h7 h8 h9 h10 kc1 kc2 kc3 kc4 kc5 kc6 kc7 kc8 kc9 kc10 V0 v0_wrong v0_wrongAt v0_procedures v0_statements c1 c46x c3 c4 c5 c6 c7 c8 c9 c10) := by rw [e46]; exact hD
        refine lv_iconst (v := 0) hx hb dX11_bind_27 (by decide +kernel) ?_
        refine lv_istore_n (lv' := [(2, .int 0), (0, .ref h0), (1, .int y1)]) hx hb dX11_bind_28 rfl hl (by decide) rfl (fun ls hl => ?_)
        exact (hG _ _ _ _ _).mp (L29 k2 hk2 FU y1 0 v0_wrong v0_wrongAt c46x c8 H locs ls (hP.sub [0, 1, 2, 3, 4, 5, 6, 7, 8, 9, 10] rfl) (hD.sub [0, 1, 2, 3, 4, 5, 6, 7, 8, 9, 10] (by decide) rfl) hS (lv_sub hl [1, 2, 0] rfl) hf)
  have L2 : ∀ (n : Nat), ∀ (y1 : Int32) (v0_wrong : Int32) (v0_wrongAt : Int32) (c2 : (Nat → Int32)) (c8 : (Nat → Int32)) (H : Heap) (locs : List Loc) (ls : Array Slot), va_P (dC, dI) vwCl (wX11_bind h0 h1 h2 h3 h4 h5 h6 h7 h8 h9 h10 kc1 kc2 kc3 kc4 kc5 kc6 kc7 kc8 kc9 kc10 V0 v0_wrong v0_wrongAt v0_procedures v0_statements c1 c2 c3 c4 c5 c6 c7 c8 c9 c10) H → va_D A (wX11_bind h0 h1 h2 h3 h4 h5 h6 h7 h8 h9 h10 kc1 kc2 kc3 kc4 kc5 kc6 kc7 kc8 kc9 kc10 V0 v0_wrong v0_wrongAt v0_procedures v0_statements c1 c2 c3 c4 c5 c6 c7 c8 c9 c10) → va_S A s.heap H locs → lv_has ls 3 [(0, .ref h0), (1, .int y1)] → fX11_bind_l2 v0_procedures v0_statements c1 c3 c4 c5 c6 c7 c9 c10  n y1 v0_wrong v0_wrongAt c2 c8 = some o → G 0 0 H locs (F0 m 2 ls []) := by
    intro  n
    induction n with
    | zero => intro y1 v0_wrong v0_wrongAt c2 c8 H locs ls _ _ _ _ hf; cases hf
    | succ n ih => exact B2  _ ih
  refine (hG _ _ _ _ _).mpr ?_
  obtain ⟨H, hH⟩ : ∃ H, H = s.heap := ⟨_, rfl⟩
  have hS : va_S A s.heap H [] := by rw [hH]; exact hS
  rw [← hH] at hP ⊢
  generalize ([] : List Loc) = locs at hS ⊢
  unfold fX11_bind at hf
  refine lv_iconst (v := 0) hx hb dX11_bind_0 (by decide +kernel) ?_
  refine lv_istore_n (lv' := [(1, .int 0), (0, .ref h0)]) hx hb dX11_bind_1 rfl hl (by decide) rfl (fun ls hl => ?_)
  exact (hG _ _ _ _ _).mp (L2 FU 0 v0_wrong v0_wrongAt c2 c8 H locs ls (hP.sub [0, 1, 2, 3, 4, 5, 6, 7, 8, 9, 10] rfl) (hD.sub [0, 1, 2, 3, 4, 5, 6, 7, 8, 9, 10] (by decide) rfl) hS (lv_sub hl [1, 0] rfl) hf)
set_option maxHeartbeats 4000000 in
set_option maxRecDepth 100000 in
theorem mX11_sum (l : Launch) (dC : Nat → ClassId) (dI : Nat → Nat → Nat) (sz : Nat) (base : Nat × Nat × Nat) (a0 : Int32) (a1 : Int32) (o : Int32 × Unit) (hf : fX11_sum a0 a1 = some o) : Met l yX11_sum (.code yX11_sum cX11_sum 2 (some .int) :: wsL_law) ({ frames := 0, cells := 0, slots := 0, locals := 0 }) (cPre (dC, dI) vwCl [.int a0, .int a1] sz base [] []) (va_Qi (fun r u => r = o.1 ∧ u = o.2) (fun (u : Unit) t => cPost (dC, dI) vwCl (va_A [] sz) [] [] t) (va_A [] sz)) 0 0 (va_A [] sz) := by
  refine Met.ofW (cc := cX11_sum) (maxL := 2) (ret := (some .int)) (by decide) rfl ?_
  intro p e s m args below meth c s₁ B hml hv
  obtain ⟨rfl, hsz, hP, hK, hD0, hE⟩ := hv
  have hx := B.exec
  have hb := B.bytes
  have hr := B.returns
  have hts : ∀ w ∈ wsL_law, _ := fun w h => atoms_spec (ws := .code yX11_sum cX11_sum 2 (some .int) :: wsL_law) B.pre w (List.mem_cons_of_mem _ h)
  have hown : s.vm.findClass RX11 = some m.cls := findClass_of_methodNamed B.named
  have hlocks := B.notSynchronized
  have w0_ := hts _ q354
  have w1_ := hts _ q370
  subst hsz
  have hD := hD0.self (sz := s.heap.size)
  generalize hAe : va_A [] s.heap.size = A at hD ⊢
  have hA : ∀ q : Nat, s.heap.size ≤ q → A q := fun q h => by rw [← hAe]; exact Or.inr h
  have hAB : ∀ q : Nat, A q → base.1 ≤ q := fun q h => by rw [← hAe] at h; exact h.elim (fun ⟨k, e, hk⟩ => hD0.2 k _ hk) (fun hk => Nat.le_trans hE.1 hk)
  have hS : va_S A s.heap s.heap [] := va_S.rf
  have hl := lv_entry ([.int a0, .int a1]) (n := 2) (Nat.le_of_ble_eq_true rfl)
  rw [lg_entry_eq]
  generalize (lg_sl ([.int a0, .int a1]) ++ List.replicate (2 - (lg_sl ([.int a0, .int a1])).length) Slot.unset).toArray = ls at hl ⊢
  have hl : lv_has ls 2 [(0, .int a0), (1, .int a1)] := hl
  have hP : va_P (dC, dI) vwCl [] s.heap := hP
  refine gl_intro (fun G hG => ?_)
  have J33 : ∀ (z0 : Int32) (H : Heap) (locs : List Loc) (ls : Array Slot), va_P (dC, dI) vwCl [] H → va_D A [] → va_S A s.heap H locs → lv_has ls 2 [] → fX11_sum_p33   z0 = some o → G 0 0 H locs (F0 m 33 ls [.int z0]) := by
    intro  z0 H locs ls hP hD hS hl hf
    refine (hG _ _ _ _ _).mpr ?_
    unfold fX11_sum_p33 at hf
    have hf1 := Option.some.inj hf
    subst hf1
    have hP9 := hP.sub (ws' := []) [] rfl
    have hD9 := hD.sub (ws' := []) [] (by decide) rfl
    exact W.iret (v := z0) hx hb hr (fun t ht hW => ⟨⟨z0, (), rfl, ⟨rfl, rfl⟩, by rw [ht]; exact hP9, va_K.moved hW.alike hK, hD9⟩, hS.F ht⟩) hS.2.2 dX11_sum_33
  have J12 : ∀ (H : Heap) (locs : List Loc) (ls : Array Slot), va_P (dC, dI) vwCl [] H → va_D A [] → va_S A s.heap H locs → lv_has ls 2 [] → fX11_sum_p12    = some o → G 0 0 H locs (F0 m 12 ls []) := by
    intro   H locs ls hP hD hS hl hf
    refine (hG _ _ _ _ _).mpr ?_
    unfold fX11_sum_p12 at hf
    refine lv_ldc (v := 2000000) hx hb hown w0_ dX11_sum_12 ?_
    refine lv_goto (tgt := 33) hx hb dX11_sum_14 (by decide) ?_
    exact (hG _ _ _ _ _).mp (J33 2000000 H locs ls (hP.sub [] rfl) (hD.sub [] (by decide) rfl) hS (lv_sub hl [] rfl) hf)
  refine (hG _ _ _ _ _).mpr ?_
  obtain ⟨H, hH⟩ : ∃ H, H = s.heap := ⟨_, rfl⟩
  have hS : va_S A s.heap H [] := by rw [hH]; exact hS
  rw [← hH] at hP ⊢
  generalize ([] : List Loc) = locs at hS ⊢
  unfold fX11_sum at hf
  refine lv_iload_n hx hb dX11_sum_0 rfl (lv_at hl 0 rfl) ?_
  refine lv_ldc (v := 2000000) hx hb hown w0_ dX11_sum_1 ?_
  refine lv_icmp_eq (tgt := 12) hx hb dX11_sum_3 (by decide) (fun cq1 => ?_) (fun cq1 => ?_)
  · replace hf := if_at hf cq1
    exact (hG _ _ _ _ _).mp (J12 H locs ls (hP.sub [] rfl) (hD.sub [] (by decide) rfl) hS (lv_sub hl [] rfl) hf)
  · replace hf := if_no hf cq1
    refine lv_iload_n hx hb dX11_sum_6 rfl (lv_at hl 1 rfl) ?_
    refine lv_ldc (v := 2000000) hx hb hown w0_ dX11_sum_7 ?_
    refine lv_icmp_ne (tgt := 17) hx hb dX11_sum_9 (by decide) (fun cq2 => ?_) (fun cq2 => ?_)
    · replace hf := if_no hf cq2
      refine lv_iload_n hx hb dX11_sum_17 rfl (lv_at hl 0 rfl) ?_
      refine lv_iload_n hx hb dX11_sum_18 rfl (lv_at hl 1 rfl) ?_
      refine lv_iadd hx hb dX11_sum_19 ?_
      refine lv_topi (fun x3 e3 => ?_)
      replace hf := nm_at hf e3
      refine lv_ldc (v := 1000000) hx hb hown w1_ dX11_sum_20 ?_
      refine lv_icmp_le (tgt := 30) hx hb dX11_sum_22 (by decide) (fun cq4 => ?_) (fun cq4 => ?_)
      · replace hf := if_at hf cq4
        refine lv_iload_n hx hb dX11_sum_30 rfl (lv_at hl 0 rfl) ?_
        refine lv_iload_n hx hb dX11_sum_31 rfl (lv_at hl 1 rfl) ?_
        refine lv_iadd hx hb dX11_sum_32 ?_
        refine lv_topi (fun x5 e5 => ?_)
        replace hf := nm_at hf e5
        exact (hG _ _ _ _ _).mp (J33 x5 H locs ls (hP.sub [] rfl) (hD.sub [] (by decide) rfl) hS (lv_sub hl [] rfl) hf)
      · replace hf := if_no hf cq4
        refine lv_ldc (v := 1000000) hx hb hown w1_ dX11_sum_25 ?_
        refine lv_goto (tgt := 33) hx hb dX11_sum_27 (by decide) ?_
        exact (hG _ _ _ _ _).mp (J33 1000000 H locs ls (hP.sub [] rfl) (hD.sub [] (by decide) rfl) hS (lv_sub hl [] rfl) hf)
    · replace hf := if_at hf cq2
      exact (hG _ _ _ _ _).mp (J12 H locs ls (hP.sub [] rfl) (hD.sub [] (by decide) rfl) hS (lv_sub hl [] rfl) hf)
abbrev wX11_byRule (h0 h1 h2 : Nat) (kc1 kc2 : ClassId) (V0 : Nat → Value) (c1 : Nat → Int32) (c2 : Nat → Int32) : va_W := [(h0, .inr (11, [V0 0, V0 1, .ref h1, V0 3, V0 4, V0 5, V0 6, V0 7, V0 8, .ref h2, V0 10, V0 11, V0 12, V0 13, V0 14, V0 15, V0 16, V0 17, V0 18, V0 19, V0 20, V0 21, V0 22, V0 23, V0 24, V0 25, V0 26, V0 27, V0 28, V0 29, V0 30, V0 31, V0 32, V0 33, V0 34, V0 35, V0 36, V0 37, V0 38, V0 39, V0 40, V0 41, V0 42, V0 43, V0 44, V0 45, V0 46, V0 47, V0 48, V0 49, V0 50, V0 51, V0 52, V0 53, V0 54, V0 55, V0 56, V0 57, V0 58, V0 59, V0 60, V0 61, V0 62, V0 63, V0 64, V0 65, V0 66, V0 67, V0 68, V0 69, V0 70])), (h1, .inl (kc1, 288, .inl c1)), (h2, .inl (kc2, 3072, .inl c2))]
set_option maxHeartbeats 4000000 in
set_option maxRecDepth 100000 in
theorem mX11_byRule (l : Launch) (dC : Nat → ClassId) (dI : Nat → Nat → Nat) (h0 h1 h2 : Nat) (kc1 kc2 : ClassId) (sz : Nat) (base : Nat × Nat × Nat) (a0 : Int32) (a1 : Int32) (c1 : Nat → Int32) (c2 : Nat → Int32) (V0 : Nat → Value) (o : Int32 × Unit) (hf : fX11_byRule a0 a1 c1 c2 = some o) : Met l yX11_byRule (.code yX11_byRule cX11_byRule 9 (some .int) :: wsL_law) ({ frames := 1, cells := 0, slots := 0, locals := 21 }) (cPre (dC, dI) vwCl [.ref h0, .int a0, .int a1] sz base (wX11_byRule h0 h1 h2 kc1 kc2 V0 c1 c2) [(kc1, .int), (kc2, .int)]) (va_Qi (fun r u => r = o.1 ∧ u = o.2) (fun (u : Unit) t => cPost (dC, dI) vwCl (va_A (wX11_byRule h0 h1 h2 kc1 kc2 V0 c1 c2) sz) (wX11_byRule h0 h1 h2 kc1 kc2 V0 c1 c2) [(kc1, .int), (kc2, .int)] t) (va_A (wX11_byRule h0 h1 h2 kc1 kc2 V0 c1 c2) sz)) 0 0 (va_A (wX11_byRule h0 h1 h2 kc1 kc2 V0 c1 c2) sz) := by
  refine Met.ofW (cc := cX11_byRule) (maxL := 9) (ret := (some .int)) (by decide) rfl ?_
  intro p e s m args below meth c s₁ B hml hv
  obtain ⟨rfl, hsz, hP, hK, hD0, hE⟩ := hv
  have hx := B.exec
  have hb := B.bytes
  have hr := B.returns
  have hts : ∀ w ∈ wsL_law, _ := fun w h => atoms_spec (ws := .code yX11_byRule cX11_byRule 9 (some .int) :: wsL_law) B.pre w (List.mem_cons_of_mem _ h)
  have hown : s.vm.findClass RX11 = some m.cls := findClass_of_methodNamed B.named
  have hlocks := B.notSynchronized
  have w0_ := hts _ q83
  have w1_ := hts _ q78
  have w2_ := hts _ q354
  subst hsz
  have hD := hD0.self (sz := s.heap.size)
  generalize hAe : va_A (wX11_byRule h0 h1 h2 kc1 kc2 V0 c1 c2) s.heap.size = A at hD ⊢
  have hA : ∀ q : Nat, s.heap.size ≤ q → A q := fun q h => by rw [← hAe]; exact Or.inr h
  have hAB : ∀ q : Nat, A q → base.1 ≤ q := fun q h => by rw [← hAe] at h; exact h.elim (fun ⟨k, e, hk⟩ => hD0.2 k _ hk) (fun hk => Nat.le_trans hE.1 hk)
  have hS : va_S A s.heap s.heap [] := va_S.rf
  have hl := lv_entry ([.ref h0, .int a0, .int a1]) (n := 9) (Nat.le_of_ble_eq_true rfl)
  rw [lg_entry_eq]
  generalize (lg_sl ([.ref h0, .int a0, .int a1]) ++ List.replicate (9 - (lg_sl ([.ref h0, .int a0, .int a1])).length) Slot.unset).toArray = ls at hl ⊢
  have hl : lv_has ls 9 [(0, .ref h0), (1, .int a0), (2, .int a1)] := hl
  have hP : va_P (dC, dI) vwCl (wX11_byRule h0 h1 h2 kc1 kc2 V0 c1 c2) s.heap := hP
  refine gl_intro (fun G hG => ?_)
  have J143 : ∀ (k82 : Int32 → Int32 → Int32 → Int32 → Int32 → Option (Int32 × Unit)) (hk82 : ∀ (y1 : Int32) (y2 : Int32) (y5 : Int32) (y6 : Int32) (y7 : Int32) (H : Heap) (locs : List Loc) (ls : Array Slot), va_P (dC, dI) vwCl (wX11_byRule h0 h1 h2 kc1 kc2 V0 c1 c2) H → va_D A (wX11_byRule h0 h1 h2 kc1 kc2 V0 c1 c2) → va_S A s.heap H locs → lv_has ls 9 [(0, .ref h0), (1, .int y1), (2, .int y2), (5, .int y5), (6, .int y6), (7, .int y7)] → k82 y1 y2 y5 y6 y7 = some o → G 0 0 H locs (F0 m 82 ls [])), ∀ (y1 : Int32) (y2 : Int32) (y5 : Int32) (y7 : Int32) (z0 : Int32) (H : Heap) (locs : List Loc) (ls : Array Slot), va_P (dC, dI) vwCl (wX11_byRule h0 h1 h2 kc1 kc2 V0 c1 c2) H → va_D A (wX11_byRule h0 h1 h2 kc1 kc2 V0 c1 c2) → va_S A s.heap H locs → lv_has ls 9 [(0, .ref h0), (1, .int y1), (2, .int y2), (5, .int y5), (7, .int y7)] → fX11_byRule_p143 c1 c2 k82 y1 y2 y5 y7 z0 = some o → G 0 0 H locs (F0 m 143 ls [.int z0]) := by
    intro k82 hk82 y1 y2 y5 y7 z0 H locs ls hP hD hS hl hf
    refine (hG _ _ _ _ _).mpr ?_
    unfold fX11_byRule_p143 at hf
    refine lv_istore (lv' := [(6, .int z0), (0, .ref h0), (1, .int y1), (2, .int y2), (5, .int y5), (7, .int y7)]) hx hb dX11_byRule_143 hl (by decide) rfl (fun ls hl => ?_)
    obtain ⟨x1, e1⟩ : ∃ y : Int32, y = y7 + 1 := ⟨_, rfl⟩
    replace hf := nm_at hf e1
    refine lv_iinc (v := x1) (lv' := [(7, .int x1), (6, .int z0), (0, .ref h0), (1, .int y1), (2, .int y2), (5, .int y5)]) hx hb dX11_byRule_145 hl (k := 5) rfl (by rw [e1]; rfl) (by decide) rfl (fun ls hl => ?_)
    refine lv_goto (tgt := 82) hx hb dX11_byRule_148 (by decide) ?_
    exact (hG _ _ _ _ _).mp (hk82 y1 y2 y5 z0 x1 H locs ls (hP.sub [0, 1, 2] rfl) (hD.sub [0, 1, 2] (by decide) rfl) hS (lv_sub hl [2, 3, 4, 5, 1, 0] rfl) hf)
  have B82 : ∀ (k82 : Int32 → Int32 → Int32 → Int32 → Int32 → Option (Int32 × Unit)) (hk82 : ∀ (y1 : Int32) (y2 : Int32) (y5 : Int32) (y6 : Int32) (y7 : Int32) (H : Heap) (locs : List Loc) (ls : Array Slot), va_P (dC, dI) vwCl (wX11_byRule h0 h1 h2 kc1 kc2 V0 c1 c2) H → va_D A (wX11_byRule h0 h1 h2 kc1 kc2 V0 c1 c2) → va_S A s.heap H locs → lv_has ls 9 [(0, .ref h0), (1, .int y1), (2, .int y2), (5, .int y5), (6, .int y6), (7, .int y7)] → k82 y1 y2 y5 y6 y7 = some o → G 0 0 H locs (F0 m 82 ls [])), ∀ (y1 : Int32) (y2 : Int32) (y5 : Int32) (y6 : Int32) (y7 : Int32) (H : Heap) (locs : List Loc) (ls : Array Slot), va_P (dC, dI) vwCl (wX11_byRule h0 h1 h2 kc1 kc2 V0 c1 c2) H → va_D A (wX11_byRule h0 h1 h2 kc1 kc2 V0 c1 c2) → va_S A s.heap H locs → lv_has ls 9 [(0, .ref h0), (1, .int y1), (2, .int y2), (5, .int y5), (6, .int y6), (7, .int y7)] → fX11_byRule_b82 c1 c2  k82 y1 y2 y5 y6 y7 = some o → G 0 0 H locs (F0 m 82 ls []) := by
    intro  k82 hk82 y1 y2 y5 y6 y7 H locs ls hP hD hS hl hf
    refine (hG _ _ _ _ _).mpr ?_
    unfold fX11_byRule_b82 at hf
    refine lv_iload hx hb dX11_byRule_82 (lv_at hl 5 rfl) ?_
    refine lv_bipush (v := 16) hx hb dX11_byRule_84 (by decide +kernel) ?_
    refine lv_icmp_ge (tgt := 151) hx hb dX11_byRule_86 (by decide) (fun cq2 => ?_) (fun cq2 => ?_)
    · replace hf := if_at hf cq2
      refine lv_iconst (v := 1) hx hb dX11_byRule_151 (by decide +kernel) ?_
      refine lv_iload hx hb dX11_byRule_152 (lv_at hl 4 rfl) ?_
      obtain ⟨o3, e3, hf⟩ := ob_some hf
      refine kSi (As := [.int 1, .int y6]) (rest := []) ⟨hx, hb, hml, hown, hts⟩ (mX11_sum l dC dI H.size base 1 y6 o3 e3) (va_cwS 2 hts (gTS q367 q368 q5 q369) rfl rfl rfl (by decide +kernel) ⟨Nat.le_of_ble_eq_true rfl, Nat.le_of_ble_eq_true rfl⟩) hK hP hD hS hA hE hAB [] [0, 1, 2] [] (wr := (wX11_byRule h0 h1 h2 kc1 kc2 V0 c1 c2)) rfl rfl (by decide) (by decide) (by decide) rfl rfl hl.1 rfl (Nat.le_of_ble_eq_true rfl) dX11_byRule_154 ⟨Nat.zero_le _, Nat.zero_le _⟩ (fun r3 u3 H locs hw3 hP hD hS => ?_)
      obtain ⟨hw31, hw32⟩ := hw3
      subst hw31 hw32
      have hP : va_P (dC, dI) vwCl (wX11_byRule h0 h1 h2 kc1 kc2 V0 c1 c2) H := hP.sub [0, 1, 2] rfl
      have hD : va_D A (wX11_byRule h0 h1 h2 kc1 kc2 V0 c1 c2) := hD.sub [0, 1, 2] (by decide) rfl
      have hf1 := Option.some.inj hf
      subst hf1
      have hP9 := hP.sub (ws' := (wX11_byRule h0 h1 h2 kc1 kc2 V0 c1 c2)) [0, 1, 2] rfl
      have hD9 := hD.sub (ws' := (wX11_byRule h0 h1 h2 kc1 kc2 V0 c1 c2)) [0, 1, 2] (by decide) rfl
      exact W.iret (v := o3.1) hx hb hr (fun t ht hW => ⟨⟨o3.1, (), rfl, ⟨rfl, rfl⟩, by rw [ht]; exact hP9, va_K.moved hW.alike hK, hD9⟩, hS.F ht⟩) hS.2.2 dX11_byRule_157
    · replace hf := if_no hf cq2
      refine lv_aload_n hx hb dX11_byRule_89 rfl (lv_at hl 0 rfl) ?_
      refine va_get (D := (dC, dI)) (ci := 11) (v := .ref h2) (C := RX11) (T := TX11) (N := 71) hx hb hts inlX11 hown hK hP 0 rfl rfl 9 (by decide) w0_ (fun _ h9 => h9) rfl dX11_byRule_90 ?_
      refine lv_iload hx hb dX11_byRule_93 (lv_at hl 3 rfl) ?_
      refine lv_iload hx hb dX11_byRule_95 (lv_at hl 5 rfl) ?_
      refine lv_iadd hx hb dX11_byRule_97 ?_
      refine lv_topi (fun x4 e4 => ?_)
      replace hf := nm_at hf e4
      have b5 := bd_in hf
      replace hf := bd_k hf
      refine va_iald hx hb hK hP 2 1 rfl rfl b5 dX11_byRule_98 ?_
      refine lv_topi (fun x6 e6 => ?_)
      replace hf := nm_at hf e6
      refine lv_aload_n hx hb dX11_byRule_99 rfl (lv_at hl 0 rfl) ?_
      refine va_get (D := (dC, dI)) (ci := 11) (v := .ref h2) (C := RX11) (T := TX11) (N := 71) hx hb hts inlX11 hown hK hP 0 rfl rfl 9 (by decide) w0_ (fun _ h9 => h9) rfl dX11_byRule_100 ?_
      refine lv_sipush (v := 192) hx hb dX11_byRule_103 (by decide +kernel) ?_
      refine lv_iload hx hb dX11_byRule_106 (lv_at hl 5 rfl) ?_
      refine lv_imul hx hb dX11_byRule_108 ?_
      refine lv_topi (fun x7 e7 => ?_)
      replace hf := nm_at hf e7
      refine lv_bipush (v := 16) hx hb dX11_byRule_109 (by decide +kernel) ?_
      refine lv_aload_n hx hb dX11_byRule_111 rfl (lv_at hl 0 rfl) ?_
      refine va_get (D := (dC, dI)) (ci := 11) (v := .ref h1) (C := RX11) (T := TX11) (N := 71) hx hb hts inlX11 hown hK hP 0 rfl rfl 2 (by decide) w1_ (fun _ h9 => h9) rfl dX11_byRule_112 ?_
      refine lv_iload_n hx hb dX11_byRule_115 rfl (lv_at hl 1 rfl) ?_
      refine lv_iconst (v := 5) hx hb dX11_byRule_116 (by decide +kernel) ?_
      refine lv_iadd hx hb dX11_byRule_117 ?_
      refine lv_topi (fun x8 e8 => ?_)
      replace hf := nm_at hf e8
      have b9 := bd_in hf
      replace hf := bd_k hf
      refine va_iald hx hb hK hP 1 0 rfl rfl b9 dX11_byRule_118 ?_
      refine lv_topi (fun x10 e10 => ?_)
      replace hf := nm_at hf e10
      refine lv_imul hx hb dX11_byRule_119 ?_
      refine lv_topi (fun x11 e11 => ?_)
      replace hf := nm_at hf e11
      refine lv_iadd hx hb dX11_byRule_120 ?_
      refine lv_topi (fun x12 e12 => ?_)
      replace hf := nm_at hf e12
      refine lv_iload_n hx hb dX11_byRule_121 rfl (lv_at hl 2 rfl) ?_
      refine lv_iadd hx hb dX11_byRule_122 ?_
      refine lv_topi (fun x13 e13 => ?_)
      replace hf := nm_at hf e13
      have b14 := bd_in hf
      replace hf := bd_k hf
      refine va_iald hx hb hK hP 2 1 rfl rfl b14 dX11_byRule_123 ?_
      refine lv_topi (fun x15 e15 => ?_)
      replace hf := nm_at hf e15
      obtain ⟨o16, e16, hf⟩ := ob_some hf
      refine kSi (As := [.int x6, .int x15]) (rest := []) ⟨hx, hb, hml, hown, hts⟩ (mX11_sum l dC dI H.size base x6 x15 o16 e16) (va_cwS 2 hts (gTS q367 q368 q5 q369) rfl rfl rfl (by decide +kernel) ⟨Nat.le_of_ble_eq_true rfl, Nat.le_of_ble_eq_true rfl⟩) hK hP hD hS hA hE hAB [] [0, 1, 2] [] (wr := (wX11_byRule h0 h1 h2 kc1 kc2 V0 c1 c2)) rfl rfl (by decide) (by decide) (by decide) rfl rfl hl.1 rfl (Nat.le_of_ble_eq_true rfl) dX11_byRule_124 ⟨Nat.zero_le _, Nat.zero_le _⟩ (fun r16 u16 H locs hw16 hP hD hS => ?_)
      obtain ⟨hw161, hw162⟩ := hw16
      subst hw161 hw162
      have hP : va_P (dC, dI) vwCl (wX11_byRule h0 h1 h2 kc1 kc2 V0 c1 c2) H := hP.sub [0, 1, 2] rfl
      have hD : va_D A (wX11_byRule h0 h1 h2 kc1 kc2 V0 c1 c2) := hD.sub [0, 1, 2] (by decide) rfl
      refine lv_istore (lv' := [(8, .int o16.1), (0, .ref h0), (1, .int y1), (2, .int y2), (5, .int y5), (6, .int y6), (7, .int y7)]) hx hb dX11_byRule_127 hl (by decide) rfl (fun ls hl => ?_)
      refine lv_iload hx hb dX11_byRule_129 (lv_at hl 0 rfl) ?_
      refine lv_iload hx hb dX11_byRule_131 (lv_at hl 5 rfl) ?_
      refine lv_icmp_ge (tgt := 141) hx hb dX11_byRule_133 (by decide) (fun cq17 => ?_) (fun cq17 => ?_)
      · replace hf := if_at hf cq17
        refine lv_iload hx hb dX11_byRule_141 (lv_at hl 5 rfl) ?_
        exact (hG _ _ _ _ _).mp (J143 k82 hk82 y1 y2 y5 y7 y6 H locs ls (hP.sub [0, 1, 2] rfl) (hD.sub [0, 1, 2] (by decide) rfl) hS (lv_sub hl [1, 2, 3, 4, 6] rfl) hf)
      · replace hf := if_no hf cq17
        refine lv_iload hx hb dX11_byRule_136 (lv_at hl 0 rfl) ?_
        refine lv_goto (tgt := 143) hx hb dX11_byRule_138 (by decide) ?_
        exact (hG _ _ _ _ _).mp (J143 k82 hk82 y1 y2 y5 y7 o16.1 H locs ls (hP.sub [0, 1, 2] rfl) (hD.sub [0, 1, 2] (by decide) rfl) hS (lv_sub hl [1, 2, 3, 4, 6] rfl) hf)
  have L82 : ∀ (n : Nat), ∀ (y1 : Int32) (y2 : Int32) (y5 : Int32) (y6 : Int32) (y7 : Int32) (H : Heap) (locs : List Loc) (ls : Array Slot), va_P (dC, dI) vwCl (wX11_byRule h0 h1 h2 kc1 kc2 V0 c1 c2) H → va_D A (wX11_byRule h0 h1 h2 kc1 kc2 V0 c1 c2) → va_S A s.heap H locs → lv_has ls 9 [(0, .ref h0), (1, .int y1), (2, .int y2), (5, .int y5), (6, .int y6), (7, .int y7)] → fX11_byRule_l82 c1 c2  n y1 y2 y5 y6 y7 = some o → G 0 0 H locs (F0 m 82 ls []) := by
    intro  n
    induction n with
    | zero => intro y1 y2 y5 y6 y7 H locs ls _ _ _ _ hf; cases hf
    | succ n ih => exact B82  _ ih
  have J35 : ∀ (z0 : Int32) (H : Heap) (locs : List Loc) (ls : Array Slot), va_P (dC, dI) vwCl (wX11_byRule h0 h1 h2 kc1 kc2 V0 c1 c2) H → va_D A (wX11_byRule h0 h1 h2 kc1 kc2 V0 c1 c2) → va_S A s.heap H locs → lv_has ls 9 [(0, .ref h0)] → fX11_byRule_p35 c1 c2  z0 = some o → G 0 0 H locs (F0 m 35 ls [.int z0]) := by
    intro  z0 H locs ls hP hD hS hl hf
    refine (hG _ _ _ _ _).mpr ?_
    unfold fX11_byRule_p35 at hf
    have hf1 := Option.some.inj hf
    subst hf1
    have hP9 := hP.sub (ws' := (wX11_byRule h0 h1 h2 kc1 kc2 V0 c1 c2)) [0, 1, 2] rfl
    have hD9 := hD.sub (ws' := (wX11_byRule h0 h1 h2 kc1 kc2 V0 c1 c2)) [0, 1, 2] (by decide) rfl
    exact W.iret (v := z0) hx hb hr (fun t ht hW => ⟨⟨z0, (), rfl, ⟨rfl, rfl⟩, by rw [ht]; exact hP9, va_K.moved hW.alike hK, hD9⟩, hS.F ht⟩) hS.2.2 dX11_byRule_35
  refine (hG _ _ _ _ _).mpr ?_
  obtain ⟨H, hH⟩ : ∃ H, H = s.heap := ⟨_, rfl⟩
  have hS : va_S A s.heap H [] := by rw [hH]; exact hS
  rw [← hH] at hP ⊢
  generalize ([] : List Loc) = locs at hS ⊢
  unfold fX11_byRule at hf
  refine lv_aload_n hx hb dX11_byRule_0 rfl (lv_at hl 0 rfl) ?_
  refine va_get (D := (dC, dI)) (ci := 11) (v := .ref h1) (C := RX11) (T := TX11) (N := 71) hx hb hts inlX11 hown hK hP 0 rfl rfl 2 (by decide) w1_ (fun _ h9 => h9) rfl dX11_byRule_1 ?_
  refine lv_iload_n hx hb dX11_byRule_4 rfl (lv_at hl 1 rfl) ?_
  refine lv_iconst (v := 2) hx hb dX11_byRule_5 (by decide +kernel) ?_
  refine lv_iadd hx hb dX11_byRule_6 ?_
  refine lv_topi (fun x18 e18 => ?_)
  replace hf := nm_at hf e18
  have b19 := bd_in hf
  replace hf := bd_k hf
  refine va_iald hx hb hK hP 1 0 rfl rfl b19 dX11_byRule_7 ?_
  refine lv_topi (fun x20 e20 => ?_)
  replace hf := nm_at hf e20
  refine lv_istore_n (lv' := [(3, .int x20), (0, .ref h0), (1, .int a0), (2, .int a1)]) hx hb dX11_byRule_8 rfl hl (by decide) rfl (fun ls hl => ?_)
  refine lv_aload_n hx hb dX11_byRule_9 rfl (lv_at hl 1 rfl) ?_
  refine va_get (D := (dC, dI)) (ci := 11) (v := .ref h1) (C := RX11) (T := TX11) (N := 71) hx hb hts inlX11 hown hK hP 0 rfl rfl 2 (by decide) w1_ (fun _ h9 => h9) rfl dX11_byRule_10 ?_
  refine lv_iload_n hx hb dX11_byRule_13 rfl (lv_at hl 2 rfl) ?_
  refine lv_iconst (v := 3) hx hb dX11_byRule_14 (by decide +kernel) ?_
  refine lv_iadd hx hb dX11_byRule_15 ?_
  refine lv_topi (fun x21 e21 => ?_)
  replace hf := nm_at hf e21
  have b22 := bd_in hf
  replace hf := bd_k hf
  refine va_iald hx hb hK hP 1 0 rfl rfl b22 dX11_byRule_16 ?_
  refine lv_topi (fun x23 e23 => ?_)
  replace hf := nm_at hf e23
  refine lv_istore (lv' := [(4, .int x23), (3, .int x20), (0, .ref h0), (1, .int a0), (2, .int a1)]) hx hb dX11_byRule_17 hl (by decide) rfl (fun ls hl => ?_)
  refine lv_iload hx hb dX11_byRule_19 (lv_at hl 0 rfl) ?_
  refine lv_if_ne (tgt := 36) hx hb dX11_byRule_21 (by decide) (fun cq24 => ?_) (fun cq24 => ?_)
  · replace hf := if_no hf cq24
    refine lv_sipush (v := 192) hx hb dX11_byRule_36 (by decide +kernel) ?_
    refine lv_iload_n hx hb dX11_byRule_39 rfl (lv_at hl 1 rfl) ?_
    refine lv_imul hx hb dX11_byRule_40 ?_
    refine lv_topi (fun x25 e25 => ?_)
    replace hf := nm_at hf e25
    refine lv_bipush (v := 16) hx hb dX11_byRule_41 (by decide +kernel) ?_
    refine lv_aload_n hx hb dX11_byRule_43 rfl (lv_at hl 2 rfl) ?_
    refine va_get (D := (dC, dI)) (ci := 11) (v := .ref h1) (C := RX11) (T := TX11) (N := 71) hx hb hts inlX11 hown hK hP 0 rfl rfl 2 (by decide) w1_ (fun _ h9 => h9) rfl dX11_byRule_44 ?_
    refine lv_iload_n hx hb dX11_byRule_47 rfl (lv_at hl 3 rfl) ?_
    refine lv_iconst (v := 4) hx hb dX11_byRule_48 (by decide +kernel) ?_
    refine lv_iadd hx hb dX11_byRule_49 ?_
    refine lv_topi (fun x26 e26 => ?_)
    replace hf := nm_at hf e26
    have b27 := bd_in hf
    replace hf := bd_k hf
    refine va_iald hx hb hK hP 1 0 rfl rfl b27 dX11_byRule_50 ?_
    refine lv_topi (fun x28 e28 => ?_)
    replace hf := nm_at hf e28
    refine lv_imul hx hb dX11_byRule_51 ?_
    refine lv_topi (fun x29 e29 => ?_)
    replace hf := nm_at hf e29
    refine lv_iadd hx hb dX11_byRule_52 ?_
    refine lv_topi (fun x30 e30 => ?_)
    replace hf := nm_at hf e30
    refine lv_istore (lv' := [(5, .int x30), (4, .int x23), (3, .int x20), (0, .ref h0), (1, .int a0), (2, .int a1)]) hx hb dX11_byRule_53 hl (by decide) rfl (fun ls hl => ?_)
    refine lv_iload hx hb dX11_byRule_55 (lv_at hl 1 rfl) ?_
    refine lv_iconst (v := 1) hx hb dX11_byRule_57 (by decide +kernel) ?_
    refine lv_icmp_ne (tgt := 75) hx hb dX11_byRule_58 (by decide) (fun cq31 => ?_) (fun cq31 => ?_)
    · replace hf := if_no hf cq31
      refine lv_ldc (v := 2000000) hx hb hown w2_ dX11_byRule_75 ?_
      refine lv_istore (lv' := [(6, .int 2000000), (5, .int x30), (4, .int x23), (3, .int x20), (0, .ref h0), (1, .int a0), (2, .int a1)]) hx hb dX11_byRule_77 hl (by decide) rfl (fun ls hl => ?_)
      refine lv_iconst (v := 0) hx hb dX11_byRule_79 (by decide +kernel) ?_
      refine lv_istore (lv' := [(7, .int 0), (6, .int 2000000), (5, .int x30), (4, .int x23), (3, .int x20), (0, .ref h0), (1, .int a0), (2, .int a1)]) hx hb dX11_byRule_80 hl (by decide) rfl (fun ls hl => ?_)
      exact (hG _ _ _ _ _).mp (L82 FU a0 a1 x30 2000000 0 H locs ls (hP.sub [0, 1, 2] rfl) (hD.sub [0, 1, 2] (by decide) rfl) hS (lv_sub hl [5, 6, 7, 2, 1, 0] rfl) hf)
    · replace hf := if_at hf cq31
      refine lv_iconst (v := 1) hx hb dX11_byRule_61 (by decide +kernel) ?_
      refine lv_aload_n hx hb dX11_byRule_62 rfl (lv_at hl 3 rfl) ?_
      refine va_get (D := (dC, dI)) (ci := 11) (v := .ref h2) (C := RX11) (T := TX11) (N := 71) hx hb hts inlX11 hown hK hP 0 rfl rfl 9 (by decide) w0_ (fun _ h9 => h9) rfl dX11_byRule_63 ?_
      refine lv_iload hx hb dX11_byRule_66 (lv_at hl 0 rfl) ?_
      refine lv_iload_n hx hb dX11_byRule_68 rfl (lv_at hl 5 rfl) ?_
      refine lv_iadd hx hb dX11_byRule_69 ?_
      refine lv_topi (fun x32 e32 => ?_)
      replace hf := nm_at hf e32
      have b33 := bd_in hf
      replace hf := bd_k hf
      refine va_iald hx hb hK hP 2 1 rfl rfl b33 dX11_byRule_70 ?_
      refine lv_topi (fun x34 e34 => ?_)
      replace hf := nm_at hf e34
      obtain ⟨o35, e35, hf⟩ := ob_some hf
      refine kSi (As := [.int 1, .int x34]) (rest := []) ⟨hx, hb, hml, hown, hts⟩ (mX11_sum l dC dI H.size base 1 x34 o35 e35) (va_cwS 2 hts (gTS q367 q368 q5 q369) rfl rfl rfl (by decide +kernel) ⟨Nat.le_of_ble_eq_true rfl, Nat.le_of_ble_eq_true rfl⟩) hK hP hD hS hA hE hAB [] [0, 1, 2] [] (wr := (wX11_byRule h0 h1 h2 kc1 kc2 V0 c1 c2)) rfl rfl (by decide) (by decide) (by decide) rfl rfl hl.1 rfl (Nat.le_of_ble_eq_true rfl) dX11_byRule_71 ⟨Nat.zero_le _, Nat.zero_le _⟩ (fun r35 u35 H locs hw35 hP hD hS => ?_)
      obtain ⟨hw351, hw352⟩ := hw35
      subst hw351 hw352
      have hP : va_P (dC, dI) vwCl (wX11_byRule h0 h1 h2 kc1 kc2 V0 c1 c2) H := hP.sub [0, 1, 2] rfl
      have hD : va_D A (wX11_byRule h0 h1 h2 kc1 kc2 V0 c1 c2) := hD.sub [0, 1, 2] (by decide) rfl
      have hf1 := Option.some.inj hf
      subst hf1
      have hP9 := hP.sub (ws' := (wX11_byRule h0 h1 h2 kc1 kc2 V0 c1 c2)) [0, 1, 2] rfl
      have hD9 := hD.sub (ws' := (wX11_byRule h0 h1 h2 kc1 kc2 V0 c1 c2)) [0, 1, 2] (by decide) rfl
      exact W.iret (v := o35.1) hx hb hr (fun t ht hW => ⟨⟨o35.1, (), rfl, ⟨rfl, rfl⟩, by rw [ht]; exact hP9, va_K.moved hW.alike hK, hD9⟩, hS.F ht⟩) hS.2.2 dX11_byRule_74
  · replace hf := if_at hf cq24
    refine lv_iload_n hx hb dX11_byRule_24 rfl (lv_at hl 1 rfl) ?_
    refine lv_iload_n hx hb dX11_byRule_25 rfl (lv_at hl 4 rfl) ?_
    refine lv_icmp_ne (tgt := 33) hx hb dX11_byRule_26 (by decide) (fun cq36 => ?_) (fun cq36 => ?_)
    · replace hf := if_no hf cq36
      refine lv_ldc (v := 2000000) hx hb hown w2_ dX11_byRule_33 ?_
      exact (hG _ _ _ _ _).mp (J35 2000000 H locs ls (hP.sub [0, 1, 2] rfl) (hD.sub [0, 1, 2] (by decide) rfl) hS (lv_sub hl [2] rfl) hf)
    · replace hf := if_at hf cq36
      refine lv_iconst (v := 1) hx hb dX11_byRule_29 (by decide +kernel) ?_
      refine lv_goto (tgt := 35) hx hb dX11_byRule_30 (by decide) ?_
      exact (hG _ _ _ _ _).mp (J35 1 H locs ls (hP.sub [0, 1, 2] rfl) (hD.sub [0, 1, 2] (by decide) rfl) hS (lv_sub hl [2] rfl) hf)
abbrev wX11_byteAt (h0 h1 : Nat) (kc1 : ClassId) (V0 : Nat → Value) (v0_textSize : Int32) (c1 : Nat → Int32) : va_W := [(h0, .inr (11, [V0 0, V0 1, V0 2, V0 3, V0 4, V0 5, V0 6, V0 7, V0 8, V0 9, V0 10, V0 11, V0 12, V0 13, V0 14, V0 15, V0 16, V0 17, V0 18, .int v0_textSize, .ref h1, V0 21, V0 22, V0 23, V0 24, V0 25, V0 26, V0 27, V0 28, V0 29, V0 30, V0 31, V0 32, V0 33, V0 34, V0 35, V0 36, V0 37, V0 38, V0 39, V0 40, V0 41, V0 42, V0 43, V0 44, V0 45, V0 46, V0 47, V0 48, V0 49, V0 50, V0 51, V0 52, V0 53, V0 54, V0 55, V0 56, V0 57, V0 58, V0 59, V0 60, V0 61, V0 62, V0 63, V0 64, V0 65, V0 66, V0 67, V0 68, V0 69, V0 70])), (h1, .inl (kc1, 600, .inl c1))]
set_option maxHeartbeats 4000000 in
set_option maxRecDepth 100000 in
theorem mX11_byteAt (l : Launch) (dC : Nat → ClassId) (dI : Nat → Nat → Nat) (h0 h1 : Nat) (kc1 : ClassId) (sz : Nat) (base : Nat × Nat × Nat) (a0 : Int32) (v0_textSize : Int32) (c1 : Nat → Int32) (V0 : Nat → Value) (o : Int32 × Unit) (hf : fX11_byteAt a0 v0_textSize c1 = some o) : Met l yX11_byteAt (.code yX11_byteAt cX11_byteAt 2 (some .int) :: wsL_law) ({ frames := 0, cells := 0, slots := 0, locals := 0 }) (cPre (dC, dI) vwCl [.ref h0, .int a0] sz base (wX11_byteAt h0 h1 kc1 V0 v0_textSize c1) [(kc1, .int)]) (va_Qi (fun r u => r = o.1 ∧ u = o.2) (fun (u : Unit) t => cPost (dC, dI) vwCl (va_A (wX11_byteAt h0 h1 kc1 V0 v0_textSize c1) sz) (wX11_byteAt h0 h1 kc1 V0 v0_textSize c1) [(kc1, .int)] t) (va_A (wX11_byteAt h0 h1 kc1 V0 v0_textSize c1) sz)) 0 0 (va_A (wX11_byteAt h0 h1 kc1 V0 v0_textSize c1) sz) := by
  refine Met.ofW (cc := cX11_byteAt) (maxL := 2) (ret := (some .int)) (by decide) rfl ?_
  intro p e s m args below meth c s₁ B hml hv
  obtain ⟨rfl, hsz, hP, hK, hD0, hE⟩ := hv
  have hx := B.exec
  have hb := B.bytes
  have hr := B.returns
  have hts : ∀ w ∈ wsL_law, _ := fun w h => atoms_spec (ws := .code yX11_byteAt cX11_byteAt 2 (some .int) :: wsL_law) B.pre w (List.mem_cons_of_mem _ h)
  have hown : s.vm.findClass RX11 = some m.cls := findClass_of_methodNamed B.named
  have hlocks := B.notSynchronized
  have w0_ := hts _ q530
  have w1_ := hts _ q94
  subst hsz
  have hD := hD0.self (sz := s.heap.size)
  generalize hAe : va_A (wX11_byteAt h0 h1 kc1 V0 v0_textSize c1) s.heap.size = A at hD ⊢
  have hA : ∀ q : Nat, s.heap.size ≤ q → A q := fun q h => by rw [← hAe]; exact Or.inr h
  have hAB : ∀ q : Nat, A q → base.1 ≤ q := fun q h => by rw [← hAe] at h; exact h.elim (fun ⟨k, e, hk⟩ => hD0.2 k _ hk) (fun hk => Nat.le_trans hE.1 hk)
  have hS : va_S A s.heap s.heap [] := va_S.rf
  have hl := lv_entry ([.ref h0, .int a0]) (n := 2) (Nat.le_of_ble_eq_true rfl)
  rw [lg_entry_eq]
  generalize (lg_sl ([.ref h0, .int a0]) ++ List.replicate (2 - (lg_sl ([.ref h0, .int a0])).length) Slot.unset).toArray = ls at hl ⊢
  have hl : lv_has ls 2 [(0, .ref h0), (1, .int a0)] := hl
  have hP : va_P (dC, dI) vwCl (wX11_byteAt h0 h1 kc1 V0 v0_textSize c1) s.heap := hP
  refine gl_intro (fun G hG => ?_)
  have J18 : ∀ (z0 : Int32) (H : Heap) (locs : List Loc) (ls : Array Slot), va_P (dC, dI) vwCl (wX11_byteAt h0 h1 kc1 V0 v0_textSize c1) H → va_D A (wX11_byteAt h0 h1 kc1 V0 v0_textSize c1) → va_S A s.heap H locs → lv_has ls 2 [(0, .ref h0)] → fX11_byteAt_p18 v0_textSize c1  z0 = some o → G 0 0 H locs (F0 m 18 ls [.int z0]) := by
    intro  z0 H locs ls hP hD hS hl hf
    refine (hG _ _ _ _ _).mpr ?_
    unfold fX11_byteAt_p18 at hf
    have hf1 := Option.some.inj hf
    subst hf1
    have hP9 := hP.sub (ws' := (wX11_byteAt h0 h1 kc1 V0 v0_textSize c1)) [0, 1] rfl
    have hD9 := hD.sub (ws' := (wX11_byteAt h0 h1 kc1 V0 v0_textSize c1)) [0, 1] (by decide) rfl
    exact W.iret (v := z0) hx hb hr (fun t ht hW => ⟨⟨z0, (), rfl, ⟨rfl, rfl⟩, by rw [ht]; exact hP9, va_K.moved hW.alike hK, hD9⟩, hS.F ht⟩) hS.2.2 dX11_byteAt_18
  refine (hG _ _ _ _ _).mpr ?_
  obtain ⟨H, hH⟩ : ∃ H, H = s.heap := ⟨_, rfl⟩
  have hS : va_S A s.heap H [] := by rw [hH]; exact hS
  rw [← hH] at hP ⊢
  generalize ([] : List Loc) = locs at hS ⊢
  unfold fX11_byteAt at hf
  refine lv_iload_n hx hb dX11_byteAt_0 rfl (lv_at hl 1 rfl) ?_
  refine lv_aload_n hx hb dX11_byteAt_1 rfl (lv_at hl 0 rfl) ?_
  refine va_get (D := (dC, dI)) (ci := 11) (v := .int v0_textSize) (C := RX11) (T := TX11) (N := 71) hx hb hts inlX11 hown hK hP 0 rfl rfl 19 (by decide) w0_ (fun _ h9 => h9) rfl dX11_byteAt_2 ?_
  refine lv_icmp_ge (tgt := 17) hx hb dX11_byteAt_5 (by decide) (fun cq1 => ?_) (fun cq1 => ?_)
  · replace hf := if_at hf cq1
    refine lv_iconst (v := (-1)) hx hb dX11_byteAt_17 (by decide +kernel) ?_
    exact (hG _ _ _ _ _).mp (J18 (-1) H locs ls (hP.sub [0, 1] rfl) (hD.sub [0, 1] (by decide) rfl) hS (lv_sub hl [0] rfl) hf)
  · replace hf := if_no hf cq1
    refine lv_aload_n hx hb dX11_byteAt_8 rfl (lv_at hl 0 rfl) ?_
    refine va_get (D := (dC, dI)) (ci := 11) (v := .ref h1) (C := RX11) (T := TX11) (N := 71) hx hb hts inlX11 hown hK hP 0 rfl rfl 20 (by decide) w1_ (fun _ h9 => h9) rfl dX11_byteAt_9 ?_
    refine lv_iload_n hx hb dX11_byteAt_12 rfl (lv_at hl 1 rfl) ?_
    have b2 := bd_in hf
    replace hf := bd_k hf
    refine va_iald hx hb hK hP 1 0 rfl rfl b2 dX11_byteAt_13 ?_
    refine lv_topi (fun x3 e3 => ?_)
    replace hf := nm_at hf e3
    refine lv_goto (tgt := 18) hx hb dX11_byteAt_14 (by decide) ?_
    exact (hG _ _ _ _ _).mp (J18 x3 H locs ls (hP.sub [0, 1] rfl) (hD.sub [0, 1] (by decide) rfl) hS (lv_sub hl [0] rfl) hf)
abbrev wX11_can (h0 h1 h2 h3 h4 : Nat) (kc1 kc2 kc3 kc4 : ClassId) (V0 : Nat → Value) (c1 : Nat → Int32) (c2 : Nat → Int32) (c3 : Nat → Int32) (c4 : Nat → Int32) : va_W := [(h0, .inr (11, [V0 0, V0 1, V0 2, V0 3, V0 4, V0 5, V0 6, V0 7, V0 8, V0 9, V0 10, V0 11, V0 12, V0 13, V0 14, V0 15, V0 16, V0 17, V0 18, V0 19, V0 20, V0 21, V0 22, V0 23, V0 24, V0 25, V0 26, V0 27, V0 28, V0 29, V0 30, V0 31, V0 32, V0 33, V0 34, V0 35, V0 36, V0 37, V0 38, V0 39, V0 40, V0 41, V0 42, V0 43, .ref h1, .ref h2, .ref h3, V0 47, V0 48, V0 49, V0 50, V0 51, V0 52, V0 53, V0 54, V0 55, V0 56, V0 57, V0 58, .ref h4, V0 60, V0 61, V0 62, V0 63, V0 64, V0 65, V0 66, V0 67, V0 68, V0 69, V0 70])), (h1, .inl (kc1, 40, .inl c1)), (h2, .inl (kc2, 40, .inl c2)), (h3, .inl (kc3, 700, .inl c3)), (h4, .inl (kc4, 700, .inl c4))]
set_option maxHeartbeats 4000000 in
set_option maxRecDepth 100000 in
theorem mX11_can (l : Launch) (dC : Nat → ClassId) (dI : Nat → Nat → Nat) (h0 h1 h2 h3 h4 : Nat) (kc1 kc2 kc3 kc4 : ClassId) (sz : Nat) (base : Nat × Nat × Nat) (a0 : Int32) (a1 : Int32) (a2 : Int32) (c1 : Nat → Int32) (c2 : Nat → Int32) (c3 : Nat → Int32) (c4 : Nat → Int32) (V0 : Nat → Value) (o : Int32 × (Nat → Int32)) (hf : fX11_can a0 a1 a2 c1 c2 c3 c4 = some o) : Met l yX11_can (.code yX11_can cX11_can 11 (some .int) :: wsL_law) ({ frames := 0, cells := 0, slots := 0, locals := 0 }) (cPre (dC, dI) vwCl [.ref h0, .int a0, .int a1, .int a2] sz base (wX11_can h0 h1 h2 h3 h4 kc1 kc2 kc3 kc4 V0 c1 c2 c3 c4) [(kc1, .int), (kc2, .int), (kc3, .int), (kc4, .int)]) (va_Qi (fun r u => r = o.1 ∧ u = o.2) (fun (u : (Nat → Int32)) t => cPost (dC, dI) vwCl (va_A (wX11_can h0 h1 h2 h3 h4 kc1 kc2 kc3 kc4 V0 c1 c2 c3 c4) sz) (wX11_can h0 h1 h2 h3 h4 kc1 kc2 kc3 kc4 V0 c1 c2 c3 u) [(kc1, .int), (kc2, .int), (kc3, .int), (kc4, .int)] t) (va_A (wX11_can h0 h1 h2 h3 h4 kc1 kc2 kc3 kc4 V0 c1 c2 c3 c4) sz)) 0 0 (va_A (wX11_can h0 h1 h2 h3 h4 kc1 kc2 kc3 kc4 V0 c1 c2 c3 c4) sz) := by
  refine Met.ofW (cc := cX11_can) (maxL := 11) (ret := (some .int)) (by decide) rfl ?_
  intro p e s m args below meth c s₁ B hml hv
  obtain ⟨rfl, hsz, hP, hK, hD0, hE⟩ := hv
  have hx := B.exec
  have hb := B.bytes
  have hr := B.returns
  have hts : ∀ w ∈ wsL_law, _ := fun w h => atoms_spec (ws := .code yX11_can cX11_can 11 (some .int) :: wsL_law) B.pre w (List.mem_cons_of_mem _ h)
  have hown : s.vm.findClass RX11 = some m.cls := findClass_of_methodNamed B.named
  have hlocks := B.notSynchronized
  have w0_ := hts _ q119
  have w1_ := hts _ q110
  have w2_ := hts _ q111
  have w3_ := hts _ q109
  subst hsz
  have hD := hD0.self (sz := s.heap.size)
  generalize hAe : va_A (wX11_can h0 h1 h2 h3 h4 kc1 kc2 kc3 kc4 V0 c1 c2 c3 c4) s.heap.size = A at hD ⊢
  have hA : ∀ q : Nat, s.heap.size ≤ q → A q := fun q h => by rw [← hAe]; exact Or.inr h
  have hAB : ∀ q : Nat, A q → base.1 ≤ q := fun q h => by rw [← hAe] at h; exact h.elim (fun ⟨k, e, hk⟩ => hD0.2 k _ hk) (fun hk => Nat.le_trans hE.1 hk)
  have hS : va_S A s.heap s.heap [] := va_S.rf
  have hl := lv_entry ([.ref h0, .int a0, .int a1, .int a2]) (n := 11) (Nat.le_of_ble_eq_true rfl)
  rw [lg_entry_eq]
  generalize (lg_sl ([.ref h0, .int a0, .int a1, .int a2]) ++ List.replicate (11 - (lg_sl ([.ref h0, .int a0, .int a1, .int a2])).length) Slot.unset).toArray = ls at hl ⊢
  have hl : lv_has ls 11 [(0, .ref h0), (1, .int a0), (2, .int a1), (3, .int a2)] := hl
  have hP : va_P (dC, dI) vwCl (wX11_can h0 h1 h2 h3 h4 kc1 kc2 kc3 kc4 V0 c1 c2 c3 c4) s.heap := hP
  refine gl_intro (fun G hG => ?_)
  have J239 : ∀ (k11 : Int32 → Int32 → Int32 → Int32 → Int32 → (Nat → Int32) → Option (Int32 × (Nat → Int32))) (hk11 : ∀ (y1 : Int32) (y2 : Int32) (y3 : Int32) (y4 : Int32) (y5 : Int32) (c4 : (Nat → Int32)) (H : Heap) (locs : List Loc) (ls : Array Slot), va_P (dC, dI) vwCl (wX11_can h0 h1 h2 h3 h4 kc1 kc2 kc3 kc4 V0 c1 c2 c3 c4) H → va_D A (wX11_can h0 h1 h2 h3 h4 kc1 kc2 kc3 kc4 V0 c1 c2 c3 c4) → va_S A s.heap H locs → lv_has ls 11 [(0, .ref h0), (1, .int y1), (2, .int y2), (3, .int y3), (4, .int y4), (5, .int y5)] → k11 y1 y2 y3 y4 y5 c4 = some o → G 0 0 H locs (F0 m 11 ls [])), ∀ (y1 : Int32) (y2 : Int32) (y3 : Int32) (y4 : Int32) (y5 : Int32) (c4 : (Nat → Int32)) (H : Heap) (locs : List Loc) (ls : Array Slot), va_P (dC, dI) vwCl (wX11_can h0 h1 h2 h3 h4 kc1 kc2 kc3 kc4 V0 c1 c2 c3 c4) H → va_D A (wX11_can h0 h1 h2 h3 h4 kc1 kc2 kc3 kc4 V0 c1 c2 c3 c4) → va_S A s.heap H locs → lv_has ls 11 [(0, .ref h0), (1, .int y1), (2, .int y2), (3, .int y3), (4, .int y4), (5, .int y5)] → fX11_can_p239 c1 c2 c3 k11 y1 y2 y3 y4 y5 c4 = some o → G 0 0 H locs (F0 m 239 ls []) := by
    intro k11 hk11 y1 y2 y3 y4 y5 c4 H locs ls hP hD hS hl hf
    refine (hG _ _ _ _ _).mpr ?_
    unfold fX11_can_p239 at hf
    obtain ⟨x1, e1⟩ : ∃ y : Int32, y = y5 + 1 := ⟨_, rfl⟩
    replace hf := nm_at hf e1
    refine lv_iinc (v := x1) (lv' := [(5, .int x1), (0, .ref h0), (1, .int y1), (2, .int y2), (3, .int y3), (4, .int y4)]) hx hb dX11_can_239 hl (k := 5) rfl (by rw [e1]; rfl) (by decide) rfl (fun ls hl => ?_)
    refine lv_goto (tgt := 11) hx hb dX11_can_242 (by decide) ?_
    exact (hG _ _ _ _ _).mp (hk11 y1 y2 y3 y4 x1 c4 H locs ls (hP.sub [0, 1, 2, 3, 4] rfl) (hD.sub [0, 1, 2, 3, 4] (by decide) rfl) hS (lv_sub hl [1, 2, 3, 4, 5, 0] rfl) hf)
  have J170 : ∀ (k11 : Int32 → Int32 → Int32 → Int32 → Int32 → (Nat → Int32) → Option (Int32 × (Nat → Int32))) (hk11 : ∀ (y1 : Int32) (y2 : Int32) (y3 : Int32) (y4 : Int32) (y5 : Int32) (c4 : (Nat → Int32)) (H : Heap) (locs : List Loc) (ls : Array Slot), va_P (dC, dI) vwCl (wX11_can h0 h1 h2 h3 h4 kc1 kc2 kc3 kc4 V0 c1 c2 c3 c4) H → va_D A (wX11_can h0 h1 h2 h3 h4 kc1 kc2 kc3 kc4 V0 c1 c2 c3 c4) → va_S A s.heap H locs → lv_has ls 11 [(0, .ref h0), (1, .int y1), (2, .int y2), (3, .int y3), (4, .int y4), (5, .int y5)] → k11 y1 y2 y3 y4 y5 c4 = some o → G 0 0 H locs (F0 m 11 ls [])), ∀ (y1 : Int32) (y2 : Int32) (y3 : Int32) (y4 : Int32) (y5 : Int32) (z0 : Int32) (z1 : Int32) (c4 : (Nat → Int32)) (H : Heap) (locs : List Loc) (ls : Array Slot), va_P (dC, dI) vwCl (wX11_can h0 h1 h2 h3 h4 kc1 kc2 kc3 kc4 V0 c1 c2 c3 c4) H → va_D A (wX11_can h0 h1 h2 h3 h4 kc1 kc2 kc3 kc4 V0 c1 c2 c3 c4) → va_S A s.heap H locs → lv_has ls 11 [(0, .ref h0), (1, .int y1), (2, .int y2), (3, .int y3), (4, .int y4), (5, .int y5)] → fX11_can_p170 c1 c2 c3 k11 y1 y2 y3 y4 y5 z0 z1 c4 = some o → G 0 0 H locs (F0 m 170 ls [.int z0, .int z1, .ref h4]) := by
    intro k11 hk11 y1 y2 y3 y4 y5 z0 z1 c4 H locs ls hP hD hS hl hf
    refine (hG _ _ _ _ _).mpr ?_
    unfold fX11_can_p170 at hf
    have b2 := bd_in hf
    replace hf := bd_k hf
    obtain ⟨c2x, e2⟩ : ∃ y, y = upd c4 z1.toNatClampNeg z0 := ⟨_, rfl⟩
    replace hf := nm_at hf e2
    refine va_iast hx hb hK hP hD hS 4 3 rfl rfl b2 dX11_can_170 (fun H locs hP hD hS => ?_)
    have hP : va_P (dC, dI) vwCl (wX11_can h0 h1 h2 h3 h4 kc1 kc2 kc3 kc4 V0 c1 c2 c3 c2x) H := by rw [e2]; exact hP
    have hD : va_D A (wX11_can h0 h1 h2 h3 h4 kc1 kc2 kc3 kc4 V0 c1 c2 c3 c2x) := by rw [e2]; exact hD
    refine lv_goto (tgt := 239) hx hb dX11_can_171 (by decide) ?_
    exact (hG _ _ _ _ _).mp (J239 k11 hk11 y1 y2 y3 y4 y5 c2x H locs ls (hP.sub [0, 1, 2, 3, 4] rfl) (hD.sub [0, 1, 2, 3, 4] (by decide) rfl) hS (lv_sub hl [0, 1, 2, 3, 4, 5] rfl) hf)
  have J86 : ∀ (k11 : Int32 → Int32 → Int32 → Int32 → Int32 → (Nat → Int32) → Option (Int32 × (Nat → Int32))) (hk11 : ∀ (y1 : Int32) (y2 : Int32) (y3 : Int32) (y4 : Int32) (y5 : Int32) (c4 : (Nat → Int32)) (H : Heap) (locs : List Loc) (ls : Array Slot), va_P (dC, dI) vwCl (wX11_can h0 h1 h2 h3 h4 kc1 kc2 kc3 kc4 V0 c1 c2 c3 c4) H → va_D A (wX11_can h0 h1 h2 h3 h4 kc1 kc2 kc3 kc4 V0 c1 c2 c3 c4) → va_S A s.heap H locs → lv_has ls 11 [(0, .ref h0), (1, .int y1), (2, .int y2), (3, .int y3), (4, .int y4), (5, .int y5)] → k11 y1 y2 y3 y4 y5 c4 = some o → G 0 0 H locs (F0 m 11 ls [])), ∀ (y1 : Int32) (y2 : Int32) (y3 : Int32) (y4 : Int32) (y5 : Int32) (y6 : Int32) (c4 : (Nat → Int32)) (H : Heap) (locs : List Loc) (ls : Array Slot), va_P (dC, dI) vwCl (wX11_can h0 h1 h2 h3 h4 kc1 kc2 kc3 kc4 V0 c1 c2 c3 c4) H → va_D A (wX11_can h0 h1 h2 h3 h4 kc1 kc2 kc3 kc4 V0 c1 c2 c3 c4) → va_S A s.heap H locs → lv_has ls 11 [(0, .ref h0), (1, .int y1), (2, .int y2), (3, .int y3), (4, .int y4), (5, .int y5), (6, .int y6)] → fX11_can_p86 c1 c2 c3 k11 y1 y2 y3 y4 y5 y6 c4 = some o → G 0 0 H locs (F0 m 86 ls []) := by
    intro k11 hk11 y1 y2 y3 y4 y5 y6 c4 H locs ls hP hD hS hl hf
    refine (hG _ _ _ _ _).mpr ?_
    unfold fX11_can_p86 at hf
    refine lv_aload_n hx hb dX11_can_86 rfl (lv_at hl 0 rfl) ?_
    refine va_get (D := (dC, dI)) (ci := 11) (v := .ref h4) (C := RX11) (T := TX11) (N := 71) hx hb hts inlX11 hown hK hP 0 rfl rfl 59 (by decide) w0_ (fun _ h9 => h9) rfl dX11_can_87 ?_
    refine lv_iload hx hb dX11_can_90 (lv_at hl 4 rfl) ?_
    refine lv_iconst (v := 2) hx hb dX11_can_92 (by decide +kernel) ?_
    refine lv_isub hx hb dX11_can_93 ?_
    refine lv_topi (fun x3 e3 => ?_)
    replace hf := nm_at hf e3
    have b4 := bd_in hf
    replace hf := bd_k hf
    refine va_iald hx hb hK hP 4 3 rfl rfl b4 dX11_can_94 ?_
    refine lv_topi (fun x5 e5 => ?_)
    replace hf := nm_at hf e5
    refine lv_istore (lv' := [(7, .int x5), (0, .ref h0), (1, .int y1), (2, .int y2), (3, .int y3), (4, .int y4), (5, .int y5), (6, .int y6)]) hx hb dX11_can_95 hl (by decide) rfl (fun ls hl => ?_)
    refine lv_aload_n hx hb dX11_can_97 rfl (lv_at hl 1 rfl) ?_
    refine va_get (D := (dC, dI)) (ci := 11) (v := .ref h4) (C := RX11) (T := TX11) (N := 71) hx hb hts inlX11 hown hK hP 0 rfl rfl 59 (by decide) w0_ (fun _ h9 => h9) rfl dX11_can_98 ?_
    refine lv_iload hx hb dX11_can_101 (lv_at hl 5 rfl) ?_
    refine lv_iconst (v := 1) hx hb dX11_can_103 (by decide +kernel) ?_
    refine lv_isub hx hb dX11_can_104 ?_
    refine lv_topi (fun x6 e6 => ?_)
    replace hf := nm_at hf e6
    have b7 := bd_in hf
    replace hf := bd_k hf
    refine va_iald hx hb hK hP 4 3 rfl rfl b7 dX11_can_105 ?_
    refine lv_topi (fun x8 e8 => ?_)
    replace hf := nm_at hf e8
    refine lv_istore (lv' := [(8, .int x8), (7, .int x5), (0, .ref h0), (1, .int y1), (2, .int y2), (3, .int y3), (4, .int y4), (5, .int y5), (6, .int y6)]) hx hb dX11_can_106 hl (by decide) rfl (fun ls hl => ?_)
    obtain ⟨x9, e9⟩ : ∃ y : Int32, y = y4 + (-1) := ⟨_, rfl⟩
    replace hf := nm_at hf e9
    refine lv_iinc (v := x9) (lv' := [(4, .int x9), (8, .int x8), (7, .int x5), (0, .ref h0), (1, .int y1), (2, .int y2), (3, .int y3), (5, .int y5), (6, .int y6)]) hx hb dX11_can_108 hl (k := 6) rfl (by rw [e9]; rfl) (by decide) rfl (fun ls hl => ?_)
    refine lv_iload hx hb dX11_can_111 (lv_at hl 2 rfl) ?_
    refine lv_iconst (v := 1) hx hb dX11_can_113 (by decide +kernel) ?_
    refine lv_ishr hx hb dX11_can_114 ?_
    refine lv_topi (fun x10 e10 => ?_)
    replace hf := nm_at hf e10
    refine lv_iload hx hb dX11_can_115 (lv_at hl 1 rfl) ?_
    refine lv_iconst (v := 1) hx hb dX11_can_117 (by decide +kernel) ?_
    refine lv_ishr hx hb dX11_can_118 ?_
    refine lv_topi (fun x11 e11 => ?_)
    replace hf := nm_at hf e11
    refine lv_iand hx hb dX11_can_119 ?_
    refine lv_topi (fun x12 e12 => ?_)
    replace hf := nm_at hf e12
    refine lv_istore (lv' := [(9, .int x12), (4, .int x9), (8, .int x8), (7, .int x5), (0, .ref h0), (1, .int y1), (2, .int y2), (3, .int y3), (5, .int y5), (6, .int y6)]) hx hb dX11_can_120 hl (by decide) rfl (fun ls hl => ?_)
    refine lv_iload hx hb dX11_can_122 (lv_at hl 3 rfl) ?_
    refine lv_iload hx hb dX11_can_124 (lv_at hl 2 rfl) ?_
    refine lv_iand hx hb dX11_can_126 ?_
    refine lv_topi (fun x13 e13 => ?_)
    replace hf := nm_at hf e13
    refine lv_iconst (v := 1) hx hb dX11_can_127 (by decide +kernel) ?_
    refine lv_iand hx hb dX11_can_128 ?_
    refine lv_topi (fun x14 e14 => ?_)
    replace hf := nm_at hf e14
    refine lv_istore (lv' := [(10, .int x14), (9, .int x12), (4, .int x9), (8, .int x8), (7, .int x5), (0, .ref h0), (1, .int y1), (2, .int y2), (3, .int y3), (5, .int y5), (6, .int y6)]) hx hb dX11_can_129 hl (by decide) rfl (fun ls hl => ?_)
    refine lv_aload_n hx hb dX11_can_131 rfl (lv_at hl 5 rfl) ?_
    refine va_get (D := (dC, dI)) (ci := 11) (v := .ref h4) (C := RX11) (T := TX11) (N := 71) hx hb hts inlX11 hown hK hP 0 rfl rfl 59 (by decide) w0_ (fun _ h9 => h9) rfl dX11_can_132 ?_
    refine lv_iload hx hb dX11_can_135 (lv_at hl 2 rfl) ?_
    refine lv_iconst (v := 1) hx hb dX11_can_137 (by decide +kernel) ?_
    refine lv_isub hx hb dX11_can_138 ?_
    refine lv_topi (fun x15 e15 => ?_)
    replace hf := nm_at hf e15
    refine lv_iload hx hb dX11_can_139 (lv_at hl 10 rfl) ?_
    refine lv_iconst (v := 4) hx hb dX11_can_141 (by decide +kernel) ?_
    refine lv_icmp_ne (tgt := 160) hx hb dX11_can_142 (by decide) (fun cq16 => ?_) (fun cq16 => ?_)
    · replace hf := if_no hf cq16
      refine lv_iload hx hb dX11_can_160 (lv_at hl 4 rfl) ?_
      refine lv_iload hx hb dX11_can_162 (lv_at hl 3 rfl) ?_
      refine lv_ior hx hb dX11_can_164 ?_
      refine lv_topi (fun x17 e17 => ?_)
      replace hf := nm_at hf e17
      refine lv_iconst (v := 2) hx hb dX11_can_165 (by decide +kernel) ?_
      refine lv_iand hx hb dX11_can_166 ?_
      refine lv_topi (fun x18 e18 => ?_)
      replace hf := nm_at hf e18
      refine lv_iload hx hb dX11_can_167 (lv_at hl 0 rfl) ?_
      refine lv_ior hx hb dX11_can_169 ?_
      refine lv_topi (fun x19 e19 => ?_)
      replace hf := nm_at hf e19
      exact (hG _ _ _ _ _).mp (J170 k11 hk11 y1 y2 y3 x9 y5 x19 x15 c4 H locs ls (hP.sub [0, 1, 2, 3, 4] rfl) (hD.sub [0, 1, 2, 3, 4] (by decide) rfl) hS (lv_sub hl [5, 6, 7, 8, 2, 9] rfl) hf)
    · replace hf := if_at hf cq16
      refine lv_iload hx hb dX11_can_145 (lv_at hl 4 rfl) ?_
      refine lv_iload hx hb dX11_can_147 (lv_at hl 3 rfl) ?_
      refine lv_ior hx hb dX11_can_149 ?_
      refine lv_topi (fun x20 e20 => ?_)
      replace hf := nm_at hf e20
      refine lv_iconst (v := 1) hx hb dX11_can_150 (by decide +kernel) ?_
      refine lv_iand hx hb dX11_can_151 ?_
      refine lv_topi (fun x21 e21 => ?_)
      replace hf := nm_at hf e21
      refine lv_iload hx hb dX11_can_152 (lv_at hl 1 rfl) ?_
      refine lv_iconst (v := 1) hx hb dX11_can_154 (by decide +kernel) ?_
      refine lv_ishl hx hb dX11_can_155 ?_
      refine lv_topi (fun x22 e22 => ?_)
      replace hf := nm_at hf e22
      refine lv_ior hx hb dX11_can_156 ?_
      refine lv_topi (fun x23 e23 => ?_)
      replace hf := nm_at hf e23
      refine lv_goto (tgt := 170) hx hb dX11_can_157 (by decide) ?_
      exact (hG _ _ _ _ _).mp (J170 k11 hk11 y1 y2 y3 x9 y5 x23 x15 c4 H locs ls (hP.sub [0, 1, 2, 3, 4] rfl) (hD.sub [0, 1, 2, 3, 4] (by decide) rfl) hS (lv_sub hl [5, 6, 7, 8, 2, 9] rfl) hf)
  have J235 : ∀ (k11 : Int32 → Int32 → Int32 → Int32 → Int32 → (Nat → Int32) → Option (Int32 × (Nat → Int32))) (hk11 : ∀ (y1 : Int32) (y2 : Int32) (y3 : Int32) (y4 : Int32) (y5 : Int32) (c4 : (Nat → Int32)) (H : Heap) (locs : List Loc) (ls : Array Slot), va_P (dC, dI) vwCl (wX11_can h0 h1 h2 h3 h4 kc1 kc2 kc3 kc4 V0 c1 c2 c3 c4) H → va_D A (wX11_can h0 h1 h2 h3 h4 kc1 kc2 kc3 kc4 V0 c1 c2 c3 c4) → va_S A s.heap H locs → lv_has ls 11 [(0, .ref h0), (1, .int y1), (2, .int y2), (3, .int y3), (4, .int y4), (5, .int y5)] → k11 y1 y2 y3 y4 y5 c4 = some o → G 0 0 H locs (F0 m 11 ls [])), ∀ (y1 : Int32) (y2 : Int32) (y3 : Int32) (y4 : Int32) (y5 : Int32) (z0 : Int32) (z1 : Int32) (c4 : (Nat → Int32)) (H : Heap) (locs : List Loc) (ls : Array Slot), va_P (dC, dI) vwCl (wX11_can h0 h1 h2 h3 h4 kc1 kc2 kc3 kc4 V0 c1 c2 c3 c4) H → va_D A (wX11_can h0 h1 h2 h3 h4 kc1 kc2 kc3 kc4 V0 c1 c2 c3 c4) → va_S A s.heap H locs → lv_has ls 11 [(0, .ref h0), (1, .int y1), (2, .int y2), (3, .int y3), (4, .int y4), (5, .int y5)] → fX11_can_p235 c1 c2 c3 k11 y1 y2 y3 y4 y5 z0 z1 c4 = some o → G 0 0 H locs (F0 m 235 ls [.int z0, .int z1, .ref h4]) := by
    intro k11 hk11 y1 y2 y3 y4 y5 z0 z1 c4 H locs ls hP hD hS hl hf
    refine (hG _ _ _ _ _).mpr ?_
    unfold fX11_can_p235 at hf
    have b24 := bd_in hf
    replace hf := bd_k hf
    obtain ⟨c24x, e24⟩ : ∃ y, y = upd c4 z1.toNatClampNeg z0 := ⟨_, rfl⟩
    replace hf := nm_at hf e24
    refine va_iast hx hb hK hP hD hS 4 3 rfl rfl b24 dX11_can_235 (fun H locs hP hD hS => ?_)
    have hP : va_P (dC, dI) vwCl (wX11_can h0 h1 h2 h3 h4 kc1 kc2 kc3 kc4 V0 c1 c2 c3 c24x) H := by rw [e24]; exact hP
    have hD : va_D A (wX11_can h0 h1 h2 h3 h4 kc1 kc2 kc3 kc4 V0 c1 c2 c3 c24x) := by rw [e24]; exact hD
    obtain ⟨x25, e25⟩ : ∃ y : Int32, y = y4 + 1 := ⟨_, rfl⟩
    replace hf := nm_at hf e25
    refine lv_iinc (v := x25) (lv' := [(4, .int x25), (0, .ref h0), (1, .int y1), (2, .int y2), (3, .int y3), (5, .int y5)]) hx hb dX11_can_236 hl (k := 4) rfl (by rw [e25]; rfl) (by decide) rfl (fun ls hl => ?_)
    exact (hG _ _ _ _ _).mp (J239 k11 hk11 y1 y2 y3 x25 y5 c24x H locs ls (hP.sub [0, 1, 2, 3, 4] rfl) (hD.sub [0, 1, 2, 3, 4] (by decide) rfl) hS (lv_sub hl [1, 2, 3, 4, 0, 5] rfl) hf)
  have B11 : ∀ (k11 : Int32 → Int32 → Int32 → Int32 → Int32 → (Nat → Int32) → Option (Int32 × (Nat → Int32))) (hk11 : ∀ (y1 : Int32) (y2 : Int32) (y3 : Int32) (y4 : Int32) (y5 : Int32) (c4 : (Nat → Int32)) (H : Heap) (locs : List Loc) (ls : Array Slot), va_P (dC, dI) vwCl (wX11_can h0 h1 h2 h3 h4 kc1 kc2 kc3 kc4 V0 c1 c2 c3 c4) H → va_D A (wX11_can h0 h1 h2 h3 h4 kc1 kc2 kc3 kc4 V0 c1 c2 c3 c4) → va_S A s.heap H locs → lv_has ls 11 [(0, .ref h0), (1, .int y1), (2, .int y2), (3, .int y3), (4, .int y4), (5, .int y5)] → k11 y1 y2 y3 y4 y5 c4 = some o → G 0 0 H locs (F0 m 11 ls [])), ∀ (y1 : Int32) (y2 : Int32) (y3 : Int32) (y4 : Int32) (y5 : Int32) (c4 : (Nat → Int32)) (H : Heap) (locs : List Loc) (ls : Array Slot), va_P (dC, dI) vwCl (wX11_can h0 h1 h2 h3 h4 kc1 kc2 kc3 kc4 V0 c1 c2 c3 c4) H → va_D A (wX11_can h0 h1 h2 h3 h4 kc1 kc2 kc3 kc4 V0 c1 c2 c3 c4) → va_S A s.heap H locs → lv_has ls 11 [(0, .ref h0), (1, .int y1), (2, .int y2), (3, .int y3), (4, .int y4), (5, .int y5)] → fX11_can_b11 c1 c2 c3  k11 y1 y2 y3 y4 y5 c4 = some o → G 0 0 H locs (F0 m 11 ls []) := by
    intro  k11 hk11 y1 y2 y3 y4 y5 c4 H locs ls hP hD hS hl hf
    refine (hG _ _ _ _ _).mpr ?_
    unfold fX11_can_b11 at hf
    refine lv_iload hx hb dX11_can_11 (lv_at hl 5 rfl) ?_
    refine lv_aload_n hx hb dX11_can_13 rfl (lv_at hl 0 rfl) ?_
    refine va_get (D := (dC, dI)) (ci := 11) (v := .ref h2) (C := RX11) (T := TX11) (N := 71) hx hb hts inlX11 hown hK hP 0 rfl rfl 45 (by decide) w1_ (fun _ h9 => h9) rfl dX11_can_14 ?_
    refine lv_iload_n hx hb dX11_can_17 rfl (lv_at hl 1 rfl) ?_
    have b26 := bd_in hf
    replace hf := bd_k hf
    refine va_iald hx hb hK hP 2 1 rfl rfl b26 dX11_can_18 ?_
    refine lv_topi (fun x27 e27 => ?_)
    replace hf := nm_at hf e27
    refine lv_icmp_ge (tgt := 245) hx hb dX11_can_19 (by decide) (fun cq28 => ?_) (fun cq28 => ?_)
    · replace hf := if_at hf cq28
      refine lv_aload_n hx hb dX11_can_245 rfl (lv_at hl 0 rfl) ?_
      refine va_get (D := (dC, dI)) (ci := 11) (v := .ref h4) (C := RX11) (T := TX11) (N := 71) hx hb hts inlX11 hown hK hP 0 rfl rfl 59 (by decide) w0_ (fun _ h9 => h9) rfl dX11_can_246 ?_
      refine lv_iconst (v := 0) hx hb dX11_can_249 (by decide +kernel) ?_
      have b29 := bd_in hf
      replace hf := bd_k hf
      refine va_iald hx hb hK hP 4 3 rfl rfl b29 dX11_can_250 ?_
      refine lv_topi (fun x30 e30 => ?_)
      replace hf := nm_at hf e30
      have hf1 := Option.some.inj hf
      subst hf1
      have hP9 := hP.sub (ws' := (wX11_can h0 h1 h2 h3 h4 kc1 kc2 kc3 kc4 V0 c1 c2 c3 c4)) [0, 1, 2, 3, 4] rfl
      have hD9 := hD.sub (ws' := (wX11_can h0 h1 h2 h3 h4 kc1 kc2 kc3 kc4 V0 c1 c2 c3 c4)) [0, 1, 2, 3, 4] (by decide) rfl
      exact W.iret (v := x30) hx hb hr (fun t ht hW => ⟨⟨x30, c4, rfl, ⟨rfl, rfl⟩, by rw [ht]; exact hP9, va_K.moved hW.alike hK, hD9⟩, hS.F ht⟩) hS.2.2 dX11_can_251
    · replace hf := if_no hf cq28
      refine lv_aload_n hx hb dX11_can_22 rfl (lv_at hl 0 rfl) ?_
      refine va_get (D := (dC, dI)) (ci := 11) (v := .ref h3) (C := RX11) (T := TX11) (N := 71) hx hb hts inlX11 hown hK hP 0 rfl rfl 46 (by decide) w2_ (fun _ h9 => h9) rfl dX11_can_23 ?_
      refine lv_iload hx hb dX11_can_26 (lv_at hl 5 rfl) ?_
      have b31 := bd_in hf
      replace hf := bd_k hf
      refine va_iald hx hb hK hP 3 2 rfl rfl b31 dX11_can_28 ?_
      refine lv_topi (fun x32 e32 => ?_)
      replace hf := nm_at hf e32
      refine lv_istore (lv' := [(6, .int x32), (0, .ref h0), (1, .int y1), (2, .int y2), (3, .int y3), (4, .int y4), (5, .int y5)]) hx hb dX11_can_29 hl (by decide) rfl (fun ls hl => ?_)
      refine lv_iload hx hb dX11_can_31 (lv_at hl 0 rfl) ?_
      refine lv_iconst (v := 3) hx hb dX11_can_33 (by decide +kernel) ?_
      refine lv_icmp_ne (tgt := 74) hx hb dX11_can_34 (by decide) (fun cq33 => ?_) (fun cq33 => ?_)
      · replace hf := if_no hf cq33
        refine lv_iload hx hb dX11_can_74 (lv_at hl 0 rfl) ?_
        refine lv_iconst (v := 4) hx hb dX11_can_76 (by decide +kernel) ?_
        refine lv_icmp_eq (tgt := 86) hx hb dX11_can_77 (by decide) (fun cq34 => ?_) (fun cq34 => ?_)
        · replace hf := if_at hf cq34
          exact (hG _ _ _ _ _).mp (J86 k11 hk11 y1 y2 y3 y4 y5 x32 c4 H locs ls (hP.sub [0, 1, 2, 3, 4] rfl) (hD.sub [0, 1, 2, 3, 4] (by decide) rfl) hS (lv_sub hl [1, 2, 3, 4, 5, 6, 0] rfl) hf)
        · replace hf := if_no hf cq34
          refine lv_iload hx hb dX11_can_80 (lv_at hl 0 rfl) ?_
          refine lv_iconst (v := 5) hx hb dX11_can_82 (by decide +kernel) ?_
          refine lv_icmp_ne (tgt := 174) hx hb dX11_can_83 (by decide) (fun cq35 => ?_) (fun cq35 => ?_)
          · replace hf := if_no hf cq35
            refine lv_aload_n hx hb dX11_can_174 rfl (lv_at hl 1 rfl) ?_
            refine va_get (D := (dC, dI)) (ci := 11) (v := .ref h4) (C := RX11) (T := TX11) (N := 71) hx hb hts inlX11 hown hK hP 0 rfl rfl 59 (by decide) w0_ (fun _ h9 => h9) rfl dX11_can_175 ?_
            refine lv_iload hx hb dX11_can_178 (lv_at hl 5 rfl) ?_
            refine lv_iload hx hb dX11_can_180 (lv_at hl 0 rfl) ?_
            refine lv_iconst (v := 2) hx hb dX11_can_182 (by decide +kernel) ?_
            refine lv_icmp_ge (tgt := 193) hx hb dX11_can_183 (by decide) (fun cq36 => ?_) (fun cq36 => ?_)
            · replace hf := if_at hf cq36
              refine lv_iload hx hb dX11_can_193 (lv_at hl 0 rfl) ?_
              refine lv_iconst (v := 2) hx hb dX11_can_195 (by decide +kernel) ?_
              refine lv_icmp_ne (tgt := 203) hx hb dX11_can_196 (by decide) (fun cq37 => ?_) (fun cq37 => ?_)
              · replace hf := if_no hf cq37
                refine lv_iload hx hb dX11_can_203 (lv_at hl 0 rfl) ?_
                refine lv_bipush (v := 24) hx hb dX11_can_205 (by decide +kernel) ?_
                refine lv_icmp_ge (tgt := 224) hx hb dX11_can_207 (by decide) (fun cq38 => ?_) (fun cq38 => ?_)
                · replace hf := if_at hf cq38
                  refine lv_iconst (v := 1) hx hb dX11_can_224 (by decide +kernel) ?_
                  refine lv_iload_n hx hb dX11_can_225 rfl (lv_at hl 4 rfl) ?_
                  refine lv_iload hx hb dX11_can_226 (lv_at hl 0 rfl) ?_
                  refine lv_bipush (v := 24) hx hb dX11_can_228 (by decide +kernel) ?_
                  refine lv_isub hx hb dX11_can_230 ?_
                  refine lv_topi (fun x39 e39 => ?_)
                  replace hf := nm_at hf e39
                  refine lv_ishr hx hb dX11_can_231 ?_
                  refine lv_topi (fun x40 e40 => ?_)
                  replace hf := nm_at hf e40
                  refine lv_iconst (v := 1) hx hb dX11_can_232 (by decide +kernel) ?_
                  refine lv_iand hx hb dX11_can_233 ?_
                  refine lv_topi (fun x41 e41 => ?_)
                  replace hf := nm_at hf e41
                  refine lv_ishl hx hb dX11_can_234 ?_
                  refine lv_topi (fun x42 e42 => ?_)
                  replace hf := nm_at hf e42
                  exact (hG _ _ _ _ _).mp (J235 k11 hk11 y1 y2 y3 y4 y5 x42 y4 c4 H locs ls (hP.sub [0, 1, 2, 3, 4] rfl) (hD.sub [0, 1, 2, 3, 4] (by decide) rfl) hS (lv_sub hl [1, 2, 3, 4, 5, 6] rfl) hf)
                · replace hf := if_no hf cq38
                  refine lv_iconst (v := 1) hx hb dX11_can_210 (by decide +kernel) ?_
                  refine lv_iload_n hx hb dX11_can_211 rfl (lv_at hl 3 rfl) ?_
                  refine lv_iload hx hb dX11_can_212 (lv_at hl 0 rfl) ?_
                  refine lv_bipush (v := 16) hx hb dX11_can_214 (by decide +kernel) ?_
                  refine lv_isub hx hb dX11_can_216 ?_
                  refine lv_topi (fun x43 e43 => ?_)
                  replace hf := nm_at hf e43
                  refine lv_ishr hx hb dX11_can_217 ?_
                  refine lv_topi (fun x44 e44 => ?_)
                  replace hf := nm_at hf e44
                  refine lv_iconst (v := 1) hx hb dX11_can_218 (by decide +kernel) ?_
                  refine lv_iand hx hb dX11_can_219 ?_
                  refine lv_topi (fun x45 e45 => ?_)
                  replace hf := nm_at hf e45
                  refine lv_ishl hx hb dX11_can_220 ?_
                  refine lv_topi (fun x46 e46 => ?_)
                  replace hf := nm_at hf e46
                  refine lv_goto (tgt := 235) hx hb dX11_can_221 (by decide) ?_
                  exact (hG _ _ _ _ _).mp (J235 k11 hk11 y1 y2 y3 y4 y5 x46 y4 c4 H locs ls (hP.sub [0, 1, 2, 3, 4] rfl) (hD.sub [0, 1, 2, 3, 4] (by decide) rfl) hS (lv_sub hl [1, 2, 3, 4, 5, 6] rfl) hf)
              · replace hf := if_at hf cq37
                refine lv_iconst (v := 3) hx hb dX11_can_199 (by decide +kernel) ?_
                refine lv_goto (tgt := 235) hx hb dX11_can_200 (by decide) ?_
                exact (hG _ _ _ _ _).mp (J235 k11 hk11 y1 y2 y3 y4 y5 3 y4 c4 H locs ls (hP.sub [0, 1, 2, 3, 4] rfl) (hD.sub [0, 1, 2, 3, 4] (by decide) rfl) hS (lv_sub hl [1, 2, 3, 4, 5, 6] rfl) hf)
            · replace hf := if_no hf cq36
              refine lv_iconst (v := 1) hx hb dX11_can_186 (by decide +kernel) ?_
              refine lv_iload hx hb dX11_can_187 (lv_at hl 0 rfl) ?_
              refine lv_ishl hx hb dX11_can_189 ?_
              refine lv_topi (fun x47 e47 => ?_)
              replace hf := nm_at hf e47
              refine lv_goto (tgt := 235) hx hb dX11_can_190 (by decide) ?_
              exact (hG _ _ _ _ _).mp (J235 k11 hk11 y1 y2 y3 y4 y5 x47 y4 c4 H locs ls (hP.sub [0, 1, 2, 3, 4] rfl) (hD.sub [0, 1, 2, 3, 4] (by decide) rfl) hS (lv_sub hl [1, 2, 3, 4, 5, 6] rfl) hf)
          · replace hf := if_at hf cq35
            exact (hG _ _ _ _ _).mp (J86 k11 hk11 y1 y2 y3 y4 y5 x32 c4 H locs ls (hP.sub [0, 1, 2, 3, 4] rfl) (hD.sub [0, 1, 2, 3, 4] (by decide) rfl) hS (lv_sub hl [1, 2, 3, 4, 5, 6, 0] rfl) hf)
      · replace hf := if_at hf cq33
        refine lv_aload_n hx hb dX11_can_37 rfl (lv_at hl 1 rfl) ?_
        refine va_get (D := (dC, dI)) (ci := 11) (v := .ref h4) (C := RX11) (T := TX11) (N := 71) hx hb hts inlX11 hown hK hP 0 rfl rfl 59 (by decide) w0_ (fun _ h9 => h9) rfl dX11_can_38 ?_
        refine lv_iload hx hb dX11_can_41 (lv_at hl 5 rfl) ?_
        refine lv_iconst (v := 1) hx hb dX11_can_43 (by decide +kernel) ?_
        refine lv_isub hx hb dX11_can_44 ?_
        refine lv_topi (fun x48 e48 => ?_)
        replace hf := nm_at hf e48
        refine lv_aload_n hx hb dX11_can_45 rfl (lv_at hl 1 rfl) ?_
        refine va_get (D := (dC, dI)) (ci := 11) (v := .ref h4) (C := RX11) (T := TX11) (N := 71) hx hb hts inlX11 hown hK hP 0 rfl rfl 59 (by decide) w0_ (fun _ h9 => h9) rfl dX11_can_46 ?_
        refine lv_iload hx hb dX11_can_49 (lv_at hl 5 rfl) ?_
        refine lv_iconst (v := 1) hx hb dX11_can_51 (by decide +kernel) ?_
        refine lv_isub hx hb dX11_can_52 ?_
        refine lv_topi (fun x49 e49 => ?_)
        replace hf := nm_at hf e49
        have b50 := bd_in hf
        replace hf := bd_k hf
        refine va_iald hx hb hK hP 4 3 rfl rfl b50 dX11_can_53 ?_
        refine lv_topi (fun x51 e51 => ?_)
        replace hf := nm_at hf e51
        refine lv_iconst (v := 1) hx hb dX11_can_54 (by decide +kernel) ?_
        refine lv_iand hx hb dX11_can_55 ?_
        refine lv_topi (fun x52 e52 => ?_)
        replace hf := nm_at hf e52
        refine lv_iconst (v := 1) hx hb dX11_can_56 (by decide +kernel) ?_
        refine lv_ishl hx hb dX11_can_57 ?_
        refine lv_topi (fun x53 e53 => ?_)
        replace hf := nm_at hf e53
        refine lv_aload_n hx hb dX11_can_58 rfl (lv_at hl 1 rfl) ?_
        refine va_get (D := (dC, dI)) (ci := 11) (v := .ref h4) (C := RX11) (T := TX11) (N := 71) hx hb hts inlX11 hown hK hP 0 rfl rfl 59 (by decide) w0_ (fun _ h9 => h9) rfl dX11_can_59 ?_
        refine lv_iload hx hb dX11_can_62 (lv_at hl 5 rfl) ?_
        refine lv_iconst (v := 1) hx hb dX11_can_64 (by decide +kernel) ?_
        refine lv_isub hx hb dX11_can_65 ?_
        refine lv_topi (fun x54 e54 => ?_)
        replace hf := nm_at hf e54
        have b55 := bd_in hf
        replace hf := bd_k hf
        refine va_iald hx hb hK hP 4 3 rfl rfl b55 dX11_can_66 ?_
        refine lv_topi (fun x56 e56 => ?_)
        replace hf := nm_at hf e56
        refine lv_iconst (v := 1) hx hb dX11_can_67 (by decide +kernel) ?_
        refine lv_ishr hx hb dX11_can_68 ?_
        refine lv_topi (fun x57 e57 => ?_)
        replace hf := nm_at hf e57
        refine lv_ior hx hb dX11_can_69 ?_
        refine lv_topi (fun x58 e58 => ?_)
        replace hf := nm_at hf e58
        have b59 := bd_in hf
        replace hf := bd_k hf
        obtain ⟨c59x, e59⟩ : ∃ y, y = upd c4 x48.toNatClampNeg x58 := ⟨_, rfl⟩
        replace hf := nm_at hf e59
        refine va_iast hx hb hK hP hD hS 4 3 rfl rfl b59 dX11_can_70 (fun H locs hP hD hS => ?_)
        have hP : va_P (dC, dI) vwCl (wX11_can h0 h1 h2 h3 h4 kc1 kc2 kc3 kc4 V0 c1 c2 c3 c59x) H := by rw [e59]; exact hP
        have hD : va_D A (wX11_can h0 h1 h2 h3 h4 kc1 kc2 kc3 kc4 V0 c1 c2 c3 c59x) := by rw [e59]; exact hD
        refine lv_goto (tgt := 239) hx hb dX11_can_71 (by decide) ?_
        exact (hG _ _ _ _ _).mp (J239 k11 hk11 y1 y2 y3 y4 y5 c59x H locs ls (hP.sub [0, 1, 2, 3, 4] rfl) (hD.sub [0, 1, 2, 3, 4] (by decide) rfl) hS (lv_sub hl [1, 2, 3, 4, 5, 6] rfl) hf)
  have L11 : ∀ (n : Nat), ∀ (y1 : Int32) (y2 : Int32) (y3 : Int32) (y4 : Int32) (y5 : Int32) (c4 : (Nat → Int32)) (H : Heap) (locs : List Loc) (ls : Array Slot), va_P (dC, dI) vwCl (wX11_can h0 h1 h2 h3 h4 kc1 kc2 kc3 kc4 V0 c1 c2 c3 c4) H → va_D A (wX11_can h0 h1 h2 h3 h4 kc1 kc2 kc3 kc4 V0 c1 c2 c3 c4) → va_S A s.heap H locs → lv_has ls 11 [(0, .ref h0), (1, .int y1), (2, .int y2), (3, .int y3), (4, .int y4), (5, .int y5)] → fX11_can_l11 c1 c2 c3  n y1 y2 y3 y4 y5 c4 = some o → G 0 0 H locs (F0 m 11 ls []) := by
    intro  n
    induction n with
    | zero => intro y1 y2 y3 y4 y5 c4 H locs ls _ _ _ _ hf; cases hf
    | succ n ih => exact B11  _ ih
  refine (hG _ _ _ _ _).mpr ?_
  obtain ⟨H, hH⟩ : ∃ H, H = s.heap := ⟨_, rfl⟩
  have hS : va_S A s.heap H [] := by rw [hH]; exact hS
  rw [← hH] at hP ⊢
  generalize ([] : List Loc) = locs at hS ⊢
  unfold fX11_can at hf
  refine lv_iconst (v := 0) hx hb dX11_can_0 (by decide +kernel) ?_
  refine lv_istore (lv' := [(4, .int 0), (0, .ref h0), (1, .int a0), (2, .int a1), (3, .int a2)]) hx hb dX11_can_1 hl (by decide) rfl (fun ls hl => ?_)
  refine lv_aload_n hx hb dX11_can_3 rfl (lv_at hl 1 rfl) ?_
  refine va_get (D := (dC, dI)) (ci := 11) (v := .ref h1) (C := RX11) (T := TX11) (N := 71) hx hb hts inlX11 hown hK hP 0 rfl rfl 44 (by decide) w3_ (fun _ h9 => h9) rfl dX11_can_4 ?_
  refine lv_iload_n hx hb dX11_can_7 rfl (lv_at hl 2 rfl) ?_
  have b60 := bd_in hf
  replace hf := bd_k hf
  refine va_iald hx hb hK hP 1 0 rfl rfl b60 dX11_can_8 ?_
  refine lv_topi (fun x61 e61 => ?_)
  replace hf := nm_at hf e61
  refine lv_istore (lv' := [(5, .int x61), (4, .int 0), (0, .ref h0), (1, .int a0), (2, .int a1), (3, .int a2)]) hx hb dX11_can_9 hl (by decide) rfl (fun ls hl => ?_)
  exact (hG _ _ _ _ _).mp (L11 FU a0 a1 a2 0 x61 c4 H locs ls (hP.sub [0, 1, 2, 3, 4] rfl) (hD.sub [0, 1, 2, 3, 4] (by decide) rfl) hS (lv_sub hl [2, 3, 4, 5, 1, 0] rfl) hf)
