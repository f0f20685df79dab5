set_option maxHeartbeats 4000000 in
set_option maxRecDepth 100000 in
theorem mX6_init (l : Launch) (dC : Nat → ClassId) (dI : Nat → Nat → Nat) (h0 : Nat) (sz : Nat) (base : Nat × Nat × Nat) : Met l yX6_init (.code yX6_init cX6_init 1 none :: wsL_law) ({ frames := 1, cells := 8, slots := 510, locals := 20 }) (cPre (dC, dI) vwCl [.ref h0] sz base [(h0, .inr (6, [.null, .null, .null, .null, .null, .null, .int 0, .null, .int 0, .null, .int 0, .int 0, .int 0, .int 0]))] []) (va_Qv (fun _ => True) (fun (u : List Nat × List ClassId) t => va_P (dC, dI) vwCl [(h0, .inr (6, [.ref (u.1.getD 0 0), .ref (u.1.getD 1 0), .ref (u.1.getD 2 0), .ref (u.1.getD 3 0), .ref (u.1.getD 4 0), .ref (u.1.getD 5 0), .int 0, .ref (u.1.getD 6 0), .int 0, .ref (u.1.getD 7 0), .int 0, .int 0, .int 0, .int 0])), ((u.1.getD 0 0), .inl ((u.2.getD 0 0), 48, .inl (fun _ => 0))), ((u.1.getD 1 0), .inl ((u.2.getD 1 0), 48, .inl (fun _ => 0))), ((u.1.getD 2 0), .inl ((u.2.getD 2 0), 48, .inl (fun _ => 0))), ((u.1.getD 3 0), .inl ((u.2.getD 3 0), 48, .inl (fun _ => 0))), ((u.1.getD 4 0), .inl ((u.2.getD 4 0), 48, .inl (fun _ => 0))), ((u.1.getD 5 0), .inl ((u.2.getD 5 0), 48, .inl (fun _ => 0))), ((u.1.getD 6 0), .inl ((u.2.getD 6 0), 192, .inl (fun _ => 0))), ((u.1.getD 7 0), .inl ((u.2.getD 7 0), 30, .inl (fun _ => 0)))] t.heap ∧ va_K (dC, dI) vwCl [((u.2.getD 0 0), .int), ((u.2.getD 1 0), .int), ((u.2.getD 2 0), .int), ((u.2.getD 3 0), .int), ((u.2.getD 4 0), .int), ((u.2.getD 5 0), .int), ((u.2.getD 6 0), .int), ((u.2.getD 7 0), .int)] t ∧ va_D (va_A [(h0, .inr (6, [.null, .null, .null, .null, .null, .null, .int 0, .null, .int 0, .null, .int 0, .int 0, .int 0, .int 0]))] sz) [(h0, .inr (6, [.ref (u.1.getD 0 0), .ref (u.1.getD 1 0), .ref (u.1.getD 2 0), .ref (u.1.getD 3 0), .ref (u.1.getD 4 0), .ref (u.1.getD 5 0), .int 0, .ref (u.1.getD 6 0), .int 0, .ref (u.1.getD 7 0), .int 0, .int 0, .int 0, .int 0])), ((u.1.getD 0 0), .inl ((u.2.getD 0 0), 48, .inl (fun _ => 0))), ((u.1.getD 1 0), .inl ((u.2.getD 1 0), 48, .inl (fun _ => 0))), ((u.1.getD 2 0), .inl ((u.2.getD 2 0), 48, .inl (fun _ => 0))), ((u.1.getD 3 0), .inl ((u.2.getD 3 0), 48, .inl (fun _ => 0))), ((u.1.getD 4 0), .inl ((u.2.getD 4 0), 48, .inl (fun _ => 0))), ((u.1.getD 5 0), .inl ((u.2.getD 5 0), 48, .inl (fun _ => 0))), ((u.1.getD 6 0), .inl ((u.2.getD 6 0), 192, .inl (fun _ => 0))), ((u.1.getD 7 0), .inl ((u.2.getD 7 0), 30, .inl (fun _ => 0)))]) (va_A [(h0, .inr (6, [.null, .null, .null, .null, .null, .null, .int 0, .null, .int 0, .null, .int 0, .int 0, .int 0, .int 0]))] sz)) 8 510 (va_A [(h0, .inr (6, [.null, .null, .null, .null, .null, .null, .int 0, .null, .int 0, .null, .int 0, .int 0, .int 0, .int 0]))] sz) := by
  refine Met.ofW (cc := cX6_init) (maxL := 1) (ret := none) (by decide) rfl ?_
  intro p e s m args below meth c s₁ B hml hv
  obtain ⟨rfl, hsz, hP, hK, hD0, hE⟩ := hv
  have hx := B.exec
  have hb := B.bytes
  have hr := B.returns
  have hts : ∀ w ∈ wsL_law, _ := fun w h => atoms_spec (ws := .code yX6_init cX6_init 1 none :: wsL_law) B.pre w (List.mem_cons_of_mem _ h)
  have hown : s.vm.findClass RX6 = some m.cls := findClass_of_methodNamed B.named
  have hlocks := B.notSynchronized
  have hin : meth.name = "<init>" := (name_of_methodNamed B.named B.method).1
  have w0_ := hts _ q31
  have w1_ := hts _ q11
  have w2_ := hts _ q12
  have w3_ := hts _ q32
  have w4_ := hts _ q33
  have w5_ := hts _ q34
  have w6_ := hts _ q35
  have w7_ := hts _ q36
  have w8_ := hts _ q37
  have w9_ := hts _ q38
  have w10_ := hts _ q39
  have w11_ := hts _ q40
  subst hsz
  have hD := hD0.self (sz := s.heap.size)
  generalize hAe : va_A [(h0, .inr (6, [.null, .null, .null, .null, .null, .null, .int 0, .null, .int 0, .null, .int 0, .int 0, .int 0, .int 0]))] s.heap.size = A at hD ⊢
  have hA : ∀ q : Nat, s.heap.size ≤ q → A q := fun q h => by rw [← hAe]; exact Or.inr h
  have hAB : ∀ q : Nat, A q → base.1 ≤ q := fun q h => by rw [← hAe] at h; exact h.elim (fun ⟨k, e, hk⟩ => hD0.2 k _ hk) (fun hk => Nat.le_trans hE.1 hk)
  have hS : va_S A s.heap s.heap [] := va_S.rf
  have hl := lv_entry ([.ref h0]) (n := 1) (Nat.le_of_ble_eq_true rfl)
  rw [lg_entry_eq]
  generalize (lg_sl ([.ref h0]) ++ List.replicate (1 - (lg_sl ([.ref h0])).length) Slot.unset).toArray = ls at hl ⊢
  have hl : lv_has ls 1 [(0, .ref h0)] := hl
  have hP : va_P (dC, dI) vwCl [(h0, .inr (6, [.null, .null, .null, .null, .null, .null, .int 0, .null, .int 0, .null, .int 0, .int 0, .int 0, .int 0]))] s.heap := hP
  have hK : va_K (dC, dI) vwCl [] s := hK
  obtain ⟨H, hH⟩ : ∃ H, H = s.heap := ⟨_, rfl⟩
  have hS : va_S A s.heap H [] := by rw [hH]; exact hS
  rw [← hH] at hP ⊢
  generalize ([] : List Loc) = locs at hS ⊢
  refine lv_aload_n hx hb dX6_init_0 rfl (lv_at hl 0 rfl) ?_
  refine W.objInit hx hb hown w0_ w1_ w2_ rfl (by rw [hml]; exact hl.1) rfl dX6_init_1 (Nat.le_of_ble_eq_true rfl) (Nat.le_of_ble_eq_true rfl) ?_
  refine W.eq (g2 := F0 m 4 ls []) rfl ?_
  refine lv_aload_n hx hb dX6_init_4 rfl (lv_at hl 0 rfl) ?_
  refine lv_bipush (v := 48) hx hb dX6_init_5 (by decide +kernel) ?_
  refine va_newa (atype := .int) hx hb w3_ (ty := .int) rfl hK hP hD hS hA (n := 48) (N' := 48) (a0 := (48, .inl (fun _ => 0))) (fun cA => zzi cA 48) (by decide +kernel) (by decide +kernel) (by decide +kernel) (by decide +kernel) (by decide +kernel) dX6_init_7 (fun hn1 kn1 H hK hP hD hS => ?_)
  have hP : va_P (dC, dI) vwCl [(h0, .inr (6, [.null, .null, .null, .null, .null, .null, .int 0, .null, .int 0, .null, .int 0, .int 0, .int 0, .int 0])), (hn1, .inl (kn1, 48, .inl (fun _ => 0)))] H := hP
  have hD : va_D A [(h0, .inr (6, [.null, .null, .null, .null, .null, .null, .int 0, .null, .int 0, .null, .int 0, .int 0, .int 0, .int 0])), (hn1, .inl (kn1, 48, .inl (fun _ => 0)))] := hD
  have hK : va_K (dC, dI) vwCl [(kn1, .int)] s := hK
  refine W.widen (k := 1) (n := 48) (by decide +kernel) (by decide +kernel) ?_
  refine va_putF (D := (dC, dI)) (ci := 6) (v := .ref hn1) (ty := .array .int) (C := RX6) (T := TX6) (N := 14) hx hb hts inlX6 tyX6 tyX6_ok nmX6 hown hK hP hD hS 0 rfl rfl 0 (by decide) w4_ (fun _ h9 => h9) rfl hin rfl (by decide +kernel) rfl rfl (Nat.le_of_ble_eq_true rfl) dX6_init_9 (fun H locs hP hD hS => ?_)
  have hP : va_P (dC, dI) vwCl [(h0, .inr (6, [.ref hn1, .null, .null, .null, .null, .null, .int 0, .null, .int 0, .null, .int 0, .int 0, .int 0, .int 0])), (hn1, .inl (kn1, 48, .inl (fun _ => 0)))] H := hP
  have hD : va_D A [(h0, .inr (6, [.ref hn1, .null, .null, .null, .null, .null, .int 0, .null, .int 0, .null, .int 0, .int 0, .int 0, .int 0])), (hn1, .inl (kn1, 48, .inl (fun _ => 0)))] := hD
  refine lv_aload_n hx hb dX6_init_12 rfl (lv_at hl 0 rfl) ?_
  refine lv_bipush (v := 48) hx hb dX6_init_13 (by decide +kernel) ?_
  refine va_newa (atype := .int) hx hb w3_ (ty := .int) rfl hK hP hD hS hA (n := 48) (N' := 48) (a0 := (48, .inl (fun _ => 0))) (fun cA => zzi cA 48) (by decide +kernel) (by decide +kernel) (by decide +kernel) (by decide +kernel) (by decide +kernel) dX6_init_15 (fun hn2 kn2 H hK hP hD hS => ?_)
  have hP : va_P (dC, dI) vwCl [(h0, .inr (6, [.ref hn1, .null, .null, .null, .null, .null, .int 0, .null, .int 0, .null, .int 0, .int 0, .int 0, .int 0])), (hn1, .inl (kn1, 48, .inl (fun _ => 0))), (hn2, .inl (kn2, 48, .inl (fun _ => 0)))] H := hP
  have hD : va_D A [(h0, .inr (6, [.ref hn1, .null, .null, .null, .null, .null, .int 0, .null, .int 0, .null, .int 0, .int 0, .int 0, .int 0])), (hn1, .inl (kn1, 48, .inl (fun _ => 0))), (hn2, .inl (kn2, 48, .inl (fun _ => 0)))] := hD
  have hK : va_K (dC, dI) vwCl [(kn1, .int), (kn2, .int)] s := hK
  refine W.widen (k := 2) (n := 96) (by decide +kernel) (by decide +kernel) ?_
  refine va_putF (D := (dC, dI)) (ci := 6) (v := .ref hn2) (ty := .array .int) (C := RX6) (T := TX6) (N := 14) hx hb hts inlX6 tyX6 tyX6_ok nmX6 hown hK hP hD hS 0 rfl rfl 1 (by decide) w5_ (fun _ h9 => h9) rfl hin rfl (by decide +kernel) rfl rfl (Nat.le_of_ble_eq_true rfl) dX6_init_17 (fun H locs hP hD hS => ?_)
  have hP : va_P (dC, dI) vwCl [(h0, .inr (6, [.ref hn1, .ref hn2, .null, .null, .null, .null, .int 0, .null, .int 0, .null, .int 0, .int 0, .int 0, .int 0])), (hn1, .inl (kn1, 48, .inl (fun _ => 0))), (hn2, .inl (kn2, 48, .inl (fun _ => 0)))] H := hP
  have hD : va_D A [(h0, .inr (6, [.ref hn1, .ref hn2, .null, .null, .null, .null, .int 0, .null, .int 0, .null, .int 0, .int 0, .int 0, .int 0])), (hn1, .inl (kn1, 48, .inl (fun _ => 0))), (hn2, .inl (kn2, 48, .inl (fun _ => 0)))] := hD
  refine lv_aload_n hx hb dX6_init_20 rfl (lv_at hl 0 rfl) ?_
  refine lv_bipush (v := 48) hx hb dX6_init_21 (by decide +kernel) ?_
  refine va_newa (atype := .int) hx hb w3_ (ty := .int) rfl hK hP hD hS hA (n := 48) (N' := 48) (a0 := (48, .inl (fun _ => 0))) (fun cA => zzi cA 48) (by decide +kernel) (by decide +kernel) (by decide +kernel) (by decide +kernel) (by decide +kernel) dX6_init_23 (fun hn3 kn3 H hK hP hD hS => ?_)
  have hP : va_P (dC, dI) vwCl [(h0, .inr (6, [.ref hn1, .ref hn2, .null, .null, .null, .null, .int 0, .null, .int 0, .null, .int 0, .int 0, .int 0, .int 0])), (hn1, .inl (kn1, 48, .inl (fun _ => 0))), (hn2, .inl (kn2, 48, .inl (fun _ => 0))), (hn3, .inl (kn3, 48, .inl (fun _ => 0)))] H := hP
  have hD : va_D A [(h0, .inr (6, [.ref hn1, .ref hn2, .null, .null, .null, .null, .int 0, .null, .int 0, .null, .int 0, .int 0, .int 0, .int 0])), (hn1, .inl (kn1, 48, .inl (fun _ => 0))), (hn2, .inl (kn2, 48, .inl (fun _ => 0))), (hn3, .inl (kn3, 48, .inl (fun _ => 0)))] := hD
  have hK : va_K (dC, dI) vwCl [(kn1, .int), (kn2, .int), (kn3, .int)] s := hK
  refine W.widen (k := 3) (n := 144) (by decide +kernel) (by decide +kernel) ?_
  refine va_putF (D := (dC, dI)) (ci := 6) (v := .ref hn3) (ty := .array .int) (C := RX6) (T := TX6) (N := 14) hx hb hts inlX6 tyX6 tyX6_ok nmX6 hown hK hP hD hS 0 rfl rfl 2 (by decide) w6_ (fun _ h9 => h9) rfl hin rfl (by decide +kernel) rfl rfl (Nat.le_of_ble_eq_true rfl) dX6_init_25 (fun H locs hP hD hS => ?_)
  have hP : va_P (dC, dI) vwCl [(h0, .inr (6, [.ref hn1, .ref hn2, .ref hn3, .null, .null, .null, .int 0, .null, .int 0, .null, .int 0, .int 0, .int 0, .int 0])), (hn1, .inl (kn1, 48, .inl (fun _ => 0))), (hn2, .inl (kn2, 48, .inl (fun _ => 0))), (hn3, .inl (kn3, 48, .inl (fun _ => 0)))] H := hP
  have hD : va_D A [(h0, .inr (6, [.ref hn1, .ref hn2, .ref hn3, .null, .null, .null, .int 0, .null, .int 0, .null, .int 0, .int 0, .int 0, .int 0])), (hn1, .inl (kn1, 48, .inl (fun _ => 0))), (hn2, .inl (kn2, 48, .inl (fun _ => 0))), (hn3, .inl (kn3, 48, .inl (fun _ => 0)))] := hD
  refine lv_aload_n hx hb dX6_init_28 rfl (lv_at hl 0 rfl) ?_
  refine lv_bipush (v := 48) hx hb dX6_init_29 (by decide +kernel) ?_
  refine va_newa (atype := .int) hx hb w3_ (ty := .int) rfl hK hP hD hS hA (n := 48) (N' := 48) (a0 := (48, .inl (fun _ => 0))) (fun cA => zzi cA 48) (by decide +kernel) (by decide +kernel) (by decide +kernel) (by decide +kernel) (by decide +kernel) dX6_init_31 (fun hn4 kn4 H hK hP hD hS => ?_)
  have hP : va_P (dC, dI) vwCl [(h0, .inr (6, [.ref hn1, .ref hn2, .ref hn3, .null, .null, .null, .int 0, .null, .int 0, .null, .int 0, .int 0, .int 0, .int 0])), (hn1, .inl (kn1, 48, .inl (fun _ => 0))), (hn2, .inl (kn2, 48, .inl (fun _ => 0))), (hn3, .inl (kn3, 48, .inl (fun _ => 0))), (hn4, .inl (kn4, 48, .inl (fun _ => 0)))] H := hP
  have hD : va_D A [(h0, .inr (6, [.ref hn1, .ref hn2, .ref hn3, .null, .null, .null, .int 0, .null, .int 0, .null, .int 0, .int 0, .int 0, .int 0])), (hn1, .inl (kn1, 48, .inl (fun _ => 0))), (hn2, .inl (kn2, 48, .inl (fun _ => 0))), (hn3, .inl (kn3, 48, .inl (fun _ => 0))), (hn4, .inl (kn4, 48, .inl (fun _ => 0)))] := hD
  have hK : va_K (dC, dI) vwCl [(kn1, .int), (kn2, .int), (kn3, .int), (kn4, .int)] s := hK
  refine W.widen (k := 4) (n := 192) (by decide +kernel) (by decide +kernel) ?_
  refine va_putF (D := (dC, dI)) (ci := 6) (v := .ref hn4) (ty := .array .int) (C := RX6) (T := TX6) (N := 14) hx hb hts inlX6 tyX6 tyX6_ok nmX6 hown hK hP hD hS 0 rfl rfl 3 (by decide) w7_ (fun _ h9 => h9) rfl hin rfl (by decide +kernel) rfl rfl (Nat.le_of_ble_eq_true rfl) dX6_init_33 (fun H locs hP hD hS => ?_)
  have hP : va_P (dC, dI) vwCl [(h0, .inr (6, [.ref hn1, .ref hn2, .ref hn3, .ref hn4, .null, .null, .int 0, .null, .int 0, .null, .int 0, .int 0, .int 0, .int 0])), (hn1, .inl (kn1, 48, .inl (fun _ => 0))), (hn2, .inl (kn2, 48, .inl (fun _ => 0))), (hn3, .inl (kn3, 48, .inl (fun _ => 0))), (hn4, .inl (kn4, 48, .inl (fun _ => 0)))] H := hP
  have hD : va_D A [(h0, .inr (6, [.ref hn1, .ref hn2, .ref hn3, .ref hn4, .null, .null, .int 0, .null, .int 0, .null, .int 0, .int 0, .int 0, .int 0])), (hn1, .inl (kn1, 48, .inl (fun _ => 0))), (hn2, .inl (kn2, 48, .inl (fun _ => 0))), (hn3, .inl (kn3, 48, .inl (fun _ => 0))), (hn4, .inl (kn4, 48, .inl (fun _ => 0)))] := hD
  refine lv_aload_n hx hb dX6_init_36 rfl (lv_at hl 0 rfl) ?_
  refine lv_bipush (v := 48) hx hb dX6_init_37 (by decide +kernel) ?_
  refine va_newa (atype := .int) hx hb w3_ (ty := .int) rfl hK hP hD hS hA (n := 48) (N' := 48) (a0 := (48, .inl (fun _ => 0))) (fun cA => zzi cA 48) (by decide +kernel) (by decide +kernel) (by decide +kernel) (by decide +kernel) (by decide +kernel) dX6_init_39 (fun hn5 kn5 H hK hP hD hS => ?_)
  have hP : va_P (dC, dI) vwCl [(h0, .inr (6, [.ref hn1, .ref hn2, .ref hn3, .ref hn4, .null, .null, .int 0, .null, .int 0, .null, .int 0, .int 0, .int 0, .int 0])), (hn1, .inl (kn1, 48, .inl (fun _ => 0))), (hn2, .inl (kn2, 48, .inl (fun _ => 0))), (hn3, .inl (kn3, 48, .inl (fun _ => 0))), (hn4, .inl (kn4, 48, .inl (fun _ => 0))), (hn5, .inl (kn5, 48, .inl (fun _ => 0)))] H := hP
  have hD : va_D A [(h0, .inr (6, [.ref hn1, .ref hn2, .ref hn3, .ref hn4, .null, .null, .int 0, .null, .int 0, .null, .int 0, .int 0, .int 0, .int 0])), (hn1, .inl (kn1, 48, .inl (fun _ => 0))), (hn2, .inl (kn2, 48, .inl (fun _ => 0))), (hn3, .inl (kn3, 48, .inl (fun _ => 0))), (hn4, .inl (kn4, 48, .inl (fun _ => 0))), (hn5, .inl (kn5, 48, .inl (fun _ => 0)))] := hD
  have hK : va_K (dC, dI) vwCl [(kn1, .int), (kn2, .int), (kn3, .int), (kn4, .int), (kn5, .int)] s := hK
  refine W.widen (k := 5) (n := 240) (by decide +kernel) (by decide +kernel) ?_
  refine va_putF (D := (dC, dI)) (ci := 6) (v := .ref hn5) (ty := .array .int) (C := RX6) (T := TX6) (N := 14) hx hb hts inlX6 tyX6 tyX6_ok nmX6 hown hK hP hD hS 0 rfl rfl 4 (by decide) w8_ (fun _ h9 => h9) rfl hin rfl (by decide +kernel) rfl rfl (Nat.le_of_ble_eq_true rfl) dX6_init_41 (fun H locs hP hD hS => ?_)
  have hP : va_P (dC, dI) vwCl [(h0, .inr (6, [.ref hn1, .ref hn2, .ref hn3, .ref hn4, .ref hn5, .null, .int 0, .null, .int 0, .null, .int 0, .int 0, .int 0, .int 0])), (hn1, .inl (kn1, 48, .inl (fun _ => 0))), (hn2, .inl (kn2, 48, .inl (fun _ => 0))), (hn3, .inl (kn3, 48, .inl (fun _ => 0))), (hn4, .inl (kn4, 48, .inl (fun _ => 0))), (hn5, .inl (kn5, 48, .inl (fun _ => 0)))] H := hP
  have hD : va_D A [(h0, .inr (6, [.ref hn1, .ref hn2, .ref hn3, .ref hn4, .ref hn5, .null, .int 0, .null, .int 0, .null, .int 0, .int 0, .int 0, .int 0])), (hn1, .inl (kn1, 48, .inl (fun _ => 0))), (hn2, .inl (kn2, 48, .inl (fun _ => 0))), (hn3, .inl (kn3, 48, .inl (fun _ => 0))), (hn4, .inl (kn4, 48, .inl (fun _ => 0))), (hn5, .inl (kn5, 48, .inl (fun _ => 0)))] := hD
  refine lv_aload_n hx hb dX6_init_44 rfl (lv_at hl 0 rfl) ?_
  refine lv_bipush (v := 48) hx hb dX6_init_45 (by decide +kernel) ?_
  refine va_newa (atype := .int) hx hb w3_ (ty := .int) rfl hK hP hD hS hA (n := 48) (N' := 48) (a0 := (48, .inl (fun _ => 0))) (fun cA => zzi cA 48) (by decide +kernel) (by decide +kernel) (by decide +kernel) (by decide +kernel) (by decide +kernel) dX6_init_47 (fun hn6 kn6 H hK hP hD hS => ?_)
  have hP : va_P (dC, dI) vwCl [(h0, .inr (6, [.ref hn1, .ref hn2, .ref hn3, .ref hn4, .ref hn5, .null, .int 0, .null, .int 0, .null, .int 0, .int 0, .int 0, .int 0])), (hn1, .inl (kn1, 48, .inl (fun _ => 0))), (hn2, .inl (kn2, 48, .inl (fun _ => 0))), (hn3, .inl (kn3, 48, .inl (fun _ => 0))), (hn4, .inl (kn4, 48, .inl (fun _ => 0))), (hn5, .inl (kn5, 48, .inl (fun _ => 0))), (hn6, .inl (kn6, 48, .inl (fun _ => 0)))] H := hP
  have hD : va_D A [(h0, .inr (6, [.ref hn1, .ref hn2, .ref hn3, .ref hn4, .ref hn5, .null, .int 0, .null, .int 0, .null, .int 0, .int 0, .int 0, .int 0])), (hn1, .inl (kn1, 48, .inl (fun _ => 0))), (hn2, .inl (kn2, 48, .inl (fun _ => 0))), (hn3, .inl (kn3, 48, .inl (fun _ => 0))), (hn4, .inl (kn4, 48, .inl (fun _ => 0))), (hn5, .inl (kn5, 48, .inl (fun _ => 0))), (hn6, .inl (kn6, 48, .inl (fun _ => 0)))] := hD
  have hK : va_K (dC, dI) vwCl [(kn1, .int), (kn2, .int), (kn3, .int), (kn4, .int), (kn5, .int), (kn6, .int)] s := hK
  refine W.widen (k := 6) (n := 288) (by decide +kernel) (by decide +kernel) ?_
  refine va_putF (D := (dC, dI)) (ci := 6) (v := .ref hn6) (ty := .array .int) (C := RX6) (T := TX6) (N := 14) hx hb hts inlX6 tyX6 tyX6_ok nmX6 hown hK hP hD hS 0 rfl rfl 5 (by decide) w9_ (fun _ h9 => h9) rfl hin rfl (by decide +kernel) rfl rfl (Nat.le_of_ble_eq_true rfl) dX6_init_49 (fun H locs hP hD hS => ?_)
  have hP : va_P (dC, dI) vwCl [(h0, .inr (6, [.ref hn1, .ref hn2, .ref hn3, .ref hn4, .ref hn5, .ref hn6, .int 0, .null, .int 0, .null, .int 0, .int 0, .int 0, .int 0])), (hn1, .inl (kn1, 48, .inl (fun _ => 0))), (hn2, .inl (kn2, 48, .inl (fun _ => 0))), (hn3, .inl (kn3, 48, .inl (fun _ => 0))), (hn4, .inl (kn4, 48, .inl (fun _ => 0))), (hn5, .inl (kn5, 48, .inl (fun _ => 0))), (hn6, .inl (kn6, 48, .inl (fun _ => 0)))] H := hP
  have hD : va_D A [(h0, .inr (6, [.ref hn1, .ref hn2, .ref hn3, .ref hn4, .ref hn5, .ref hn6, .int 0, .null, .int 0, .null, .int 0, .int 0, .int 0, .int 0])), (hn1, .inl (kn1, 48, .inl (fun _ => 0))), (hn2, .inl (kn2, 48, .inl (fun _ => 0))), (hn3, .inl (kn3, 48, .inl (fun _ => 0))), (hn4, .inl (kn4, 48, .inl (fun _ => 0))), (hn5, .inl (kn5, 48, .inl (fun _ => 0))), (hn6, .inl (kn6, 48, .inl (fun _ => 0)))] := hD
  refine lv_aload_n hx hb dX6_init_52 rfl (lv_at hl 0 rfl) ?_
  refine lv_sipush (v := 192) hx hb dX6_init_53 (by decide +kernel) ?_
  refine va_newa (atype := .int) hx hb w3_ (ty := .int) rfl hK hP hD hS hA (n := 192) (N' := 192) (a0 := (192, .inl (fun _ => 0))) (fun cA => zzi cA 192) (by decide +kernel) (by decide +kernel) (by decide +kernel) (by decide +kernel) (by decide +kernel) dX6_init_56 (fun hn7 kn7 H hK hP hD hS => ?_)
  have hP : va_P (dC, dI) vwCl [(h0, .inr (6, [.ref hn1, .ref hn2, .ref hn3, .ref hn4, .ref hn5, .ref hn6, .int 0, .null, .int 0, .null, .int 0, .int 0, .int 0, .int 0])), (hn1, .inl (kn1, 48, .inl (fun _ => 0))), (hn2, .inl (kn2, 48, .inl (fun _ => 0))), (hn3, .inl (kn3, 48, .inl (fun _ => 0))), (hn4, .inl (kn4, 48, .inl (fun _ => 0))), (hn5, .inl (kn5, 48, .inl (fun _ => 0))), (hn6, .inl (kn6, 48, .inl (fun _ => 0))), (hn7, .inl (kn7, 192, .inl (fun _ => 0)))] H := hP
  have hD : va_D A [(h0, .inr (6, [.ref hn1, .ref hn2, .ref hn3, .ref hn4, .ref hn5, .ref hn6, .int 0, .null, .int 0, .null, .int 0, .int 0, .int 0, .int 0])), (hn1, .inl (kn1, 48, .inl (fun _ => 0))), (hn2, .inl (kn2, 48, .inl (fun _ => 0))), (hn3, .inl (kn3, 48, .inl (fun _ => 0))), (hn4, .inl (kn4, 48, .inl (fun _ => 0))), (hn5, .inl (kn5, 48, .inl (fun _ => 0))), (hn6, .inl (kn6, 48, .inl (fun _ => 0))), (hn7, .inl (kn7, 192, .inl (fun _ => 0)))] := hD
  have hK : va_K (dC, dI) vwCl [(kn1, .int), (kn2, .int), (kn3, .int), (kn4, .int), (kn5, .int), (kn6, .int), (kn7, .int)] s := hK
  refine W.widen (k := 7) (n := 480) (by decide +kernel) (by decide +kernel) ?_
  refine va_putF (D := (dC, dI)) (ci := 6) (v := .ref hn7) (ty := .array .int) (C := RX6) (T := TX6) (N := 14) hx hb hts inlX6 tyX6 tyX6_ok nmX6 hown hK hP hD hS 0 rfl rfl 7 (by decide) w10_ (fun _ h9 => h9) rfl hin rfl (by decide +kernel) rfl rfl (Nat.le_of_ble_eq_true rfl) dX6_init_58 (fun H locs hP hD hS => ?_)
  have hP : va_P (dC, dI) vwCl [(h0, .inr (6, [.ref hn1, .ref hn2, .ref hn3, .ref hn4, .ref hn5, .ref hn6, .int 0, .ref hn7, .int 0, .null, .int 0, .int 0, .int 0, .int 0])), (hn1, .inl (kn1, 48, .inl (fun _ => 0))), (hn2, .inl (kn2, 48, .inl (fun _ => 0))), (hn3, .inl (kn3, 48, .inl (fun _ => 0))), (hn4, .inl (kn4, 48, .inl (fun _ => 0))), (hn5, .inl (kn5, 48, .inl (fun _ => 0))), (hn6, .inl (kn6, 48, .inl (fun _ => 0))), (hn7, .inl (kn7, 192, .inl (fun _ => 0)))] H := hP
  have hD : va_D A [(h0, .inr (6, [.ref hn1, .ref hn2, .ref hn3, .ref hn4, .ref hn5, .ref hn6, .int 0, .ref hn7, .int 0, .null, .int 0, .int 0, .int 0, .int 0])), (hn1, .inl (kn1, 48, .inl (fun _ => 0))), (hn2, .inl (kn2, 48, .inl (fun _ => 0))), (hn3, .inl (kn3, 48, .inl (fun _ => 0))), (hn4, .inl (kn4, 48, .inl (fun _ => 0))), (hn5, .inl (kn5, 48, .inl (fun _ => 0))), (hn6, .inl (kn6, 48, .inl (fun _ => 0))), (hn7, .inl (kn7, 192, .inl (fun _ => 0)))] := hD
  refine lv_aload_n hx hb dX6_init_61 rfl (lv_at hl 0 rfl) ?_
  refine lv_bipush (v := 30) hx hb dX6_init_62 (by decide +kernel) ?_
  refine va_newa (atype := .int) hx hb w3_ (ty := .int) rfl hK hP hD hS hA (n := 30) (N' := 30) (a0 := (30, .inl (fun _ => 0))) (fun cA => zzi cA 30) (by decide +kernel) (by decide +kernel) (by decide +kernel) (by decide +kernel) (by decide +kernel) dX6_init_64 (fun hn8 kn8 H hK hP hD hS => ?_)
  have hP : va_P (dC, dI) vwCl [(h0, .inr (6, [.ref hn1, .ref hn2, .ref hn3, .ref hn4, .ref hn5, .ref hn6, .int 0, .ref hn7, .int 0, .null, .int 0, .int 0, .int 0, .int 0])), (hn1, .inl (kn1, 48, .inl (fun _ => 0))), (hn2, .inl (kn2, 48, .inl (fun _ => 0))), (hn3, .inl (kn3, 48, .inl (fun _ => 0))), (hn4, .inl (kn4, 48, .inl (fun _ => 0))), (hn5, .inl (kn5, 48, .inl (fun _ => 0))), (hn6, .inl (kn6, 48, .inl (fun _ => 0))), (hn7, .inl (kn7, 192, .inl (fun _ => 0))), (hn8, .inl (kn8, 30, .inl (fun _ => 0)))] H := hP
  have hD : va_D A [(h0, .inr (6, [.ref hn1, .ref hn2, .ref hn3, .ref hn4, .ref hn5, .ref hn6, .int 0, .ref hn7, .int 0, .null, .int 0, .int 0, .int 0, .int 0])), (hn1, .inl (kn1, 48, .inl (fun _ => 0))), (hn2, .inl (kn2, 48, .inl (fun _ => 0))), (hn3, .inl (kn3, 48, .inl (fun _ => 0))), (hn4, .inl (kn4, 48, .inl (fun _ => 0))), (hn5, .inl (kn5, 48, .inl (fun _ => 0))), (hn6, .inl (kn6, 48, .inl (fun _ => 0))), (hn7, .inl (kn7, 192, .inl (fun _ => 0))), (hn8, .inl (kn8, 30, .inl (fun _ => 0)))] := hD
  have hK : va_K (dC, dI) vwCl [(kn1, .int), (kn2, .int), (kn3, .int), (kn4, .int), (kn5, .int), (kn6, .int), (kn7, .int), (kn8, .int)] s := hK
  refine W.widen (k := 8) (n := 510) (by decide +kernel) (by decide +kernel) ?_
  refine va_putF (D := (dC, dI)) (ci := 6) (v := .ref hn8) (ty := .array .int) (C := RX6) (T := TX6) (N := 14) hx hb hts inlX6 tyX6 tyX6_ok nmX6 hown hK hP hD hS 0 rfl rfl 9 (by decide) w11_ (fun _ h9 => h9) rfl hin rfl (by decide +kernel) rfl rfl (Nat.le_of_ble_eq_true rfl) dX6_init_66 (fun H locs hP hD hS => ?_)
  have hP : va_P (dC, dI) vwCl [(h0, .inr (6, [.ref hn1, .ref hn2, .ref hn3, .ref hn4, .ref hn5, .ref hn6, .int 0, .ref hn7, .int 0, .ref hn8, .int 0, .int 0, .int 0, .int 0])), (hn1, .inl (kn1, 48, .inl (fun _ => 0))), (hn2, .inl (kn2, 48, .inl (fun _ => 0))), (hn3, .inl (kn3, 48, .inl (fun _ => 0))), (hn4, .inl (kn4, 48, .inl (fun _ => 0))), (hn5, .inl (kn5, 48, .inl (fun _ => 0))), (hn6, .inl (kn6, 48, .inl (fun _ => 0))), (hn7, .inl (kn7, 192, .inl (fun _ => 0))), (hn8, .inl (kn8, 30, .inl (fun _ => 0)))] H := hP
  have hD : va_D A [(h0, .inr (6, [.ref hn1, .ref hn2, .ref hn3, .ref hn4, .ref hn5, .ref hn6, .int 0, .ref hn7, .int 0, .ref hn8, .int 0, .int 0, .int 0, .int 0])), (hn1, .inl (kn1, 48, .inl (fun _ => 0))), (hn2, .inl (kn2, 48, .inl (fun _ => 0))), (hn3, .inl (kn3, 48, .inl (fun _ => 0))), (hn4, .inl (kn4, 48, .inl (fun _ => 0))), (hn5, .inl (kn5, 48, .inl (fun _ => 0))), (hn6, .inl (kn6, 48, .inl (fun _ => 0))), (hn7, .inl (kn7, 192, .inl (fun _ => 0))), (hn8, .inl (kn8, 30, .inl (fun _ => 0)))] := hD
  have hP9 := hP.sub (ws' := [(h0, .inr (6, [.ref hn1, .ref hn2, .ref hn3, .ref hn4, .ref hn5, .ref hn6, .int 0, .ref hn7, .int 0, .ref hn8, .int 0, .int 0, .int 0, .int 0])), (hn1, .inl (kn1, 48, .inl (fun _ => 0))), (hn2, .inl (kn2, 48, .inl (fun _ => 0))), (hn3, .inl (kn3, 48, .inl (fun _ => 0))), (hn4, .inl (kn4, 48, .inl (fun _ => 0))), (hn5, .inl (kn5, 48, .inl (fun _ => 0))), (hn6, .inl (kn6, 48, .inl (fun _ => 0))), (hn7, .inl (kn7, 192, .inl (fun _ => 0))), (hn8, .inl (kn8, 30, .inl (fun _ => 0)))]) [0, 1, 2, 3, 4, 5, 6, 7, 8] rfl
  have hD9 := hD.sub (ws' := [(h0, .inr (6, [.ref hn1, .ref hn2, .ref hn3, .ref hn4, .ref hn5, .ref hn6, .int 0, .ref hn7, .int 0, .ref hn8, .int 0, .int 0, .int 0, .int 0])), (hn1, .inl (kn1, 48, .inl (fun _ => 0))), (hn2, .inl (kn2, 48, .inl (fun _ => 0))), (hn3, .inl (kn3, 48, .inl (fun _ => 0))), (hn4, .inl (kn4, 48, .inl (fun _ => 0))), (hn5, .inl (kn5, 48, .inl (fun _ => 0))), (hn6, .inl (kn6, 48, .inl (fun _ => 0))), (hn7, .inl (kn7, 192, .inl (fun _ => 0))), (hn8, .inl (kn8, 30, .inl (fun _ => 0)))]) [0, 1, 2, 3, 4, 5, 6, 7, 8] (by decide) rfl
  exact W.vret hx hb hr (fun t ht hW => ⟨⟨([hn1, hn2, hn3, hn4, hn5, hn6, hn7, hn8], [kn1, kn2, kn3, kn4, kn5, kn6, kn7, kn8]), rfl, trivial, by rw [ht]; exact hP9, va_K.moved hW.alike hK, hD9⟩, hS.F ht⟩) hS.2.2 dX6_init_69
set_option maxHeartbeats 4000000 in
set_option maxRecDepth 100000 in
theorem mX4_init (l : Launch) (dC : Nat → ClassId) (dI : Nat → Nat → Nat) (h0 : Nat) (sz : Nat) (base : Nat × Nat × Nat) : Met l yX4_init (.code yX4_init cX4_init 1 none :: wsL_law) ({ frames := 1, cells := 1, slots := 600, locals := 20 }) (cPre (dC, dI) vwCl [.ref h0] sz base [(h0, .inr (4, [.int 0, .int 0, .long 0, .int 0, .int 0, .null, .int 0, .int 0]))] []) (va_Qv (fun _ => True) (fun (u : List Nat × List ClassId) t => va_P (dC, dI) vwCl [(h0, .inr (4, [.int 0, .int 0, .long 0, .int 0, .int 0, .ref (u.1.getD 0 0), .int 0, .int 0])), ((u.1.getD 0 0), .inl ((u.2.getD 0 0), 600, .inl (fun _ => 0)))] t.heap ∧ va_K (dC, dI) vwCl [((u.2.getD 0 0), .byte)] t ∧ va_D (va_A [(h0, .inr (4, [.int 0, .int 0, .long 0, .int 0, .int 0, .null, .int 0, .int 0]))] sz) [(h0, .inr (4, [.int 0, .int 0, .long 0, .int 0, .int 0, .ref (u.1.getD 0 0), .int 0, .int 0])), ((u.1.getD 0 0), .inl ((u.2.getD 0 0), 600, .inl (fun _ => 0)))]) (va_A [(h0, .inr (4, [.int 0, .int 0, .long 0, .int 0, .int 0, .null, .int 0, .int 0]))] sz)) 1 600 (va_A [(h0, .inr (4, [.int 0, .int 0, .long 0, .int 0, .int 0, .null, .int 0, .int 0]))] sz) := by
  refine Met.ofW (cc := cX4_init) (maxL := 1) (ret := none) (by decide) rfl ?_
  intro p e s m args below meth c s₁ B hml hv
  obtain ⟨rfl, hsz, hP, hK, hD0, hE⟩ := hv
  have hx := B.exec
  have hb := B.bytes
  have hr := B.returns
  have hts : ∀ w ∈ wsL_law, _ := fun w h => atoms_spec (ws := .code yX4_init cX4_init 1 none :: wsL_law) B.pre w (List.mem_cons_of_mem _ h)
  have hown : s.vm.findClass RX4 = some m.cls := findClass_of_methodNamed B.named
  have hlocks := B.notSynchronized
  have hin : meth.name = "<init>" := (name_of_methodNamed B.named B.method).1
  have w0_ := hts _ q43
  have w1_ := hts _ q11
  have w2_ := hts _ q12
  have w3_ := hts _ q44
  have w4_ := hts _ q45
  subst hsz
  have hD := hD0.self (sz := s.heap.size)
  generalize hAe : va_A [(h0, .inr (4, [.int 0, .int 0, .long 0, .int 0, .int 0, .null, .int 0, .int 0]))] s.heap.size = A at hD ⊢
  have hA : ∀ q : Nat, s.heap.size ≤ q → A q := fun q h => by rw [← hAe]; exact Or.inr h
  have hAB : ∀ q : Nat, A q → base.1 ≤ q := fun q h => by rw [← hAe] at h; exact h.elim (fun ⟨k, e, hk⟩ => hD0.2 k _ hk) (fun hk => Nat.le_trans hE.1 hk)
  have hS : va_S A s.heap s.heap [] := va_S.rf
  have hl := lv_entry ([.ref h0]) (n := 1) (Nat.le_of_ble_eq_true rfl)
  rw [lg_entry_eq]
  generalize (lg_sl ([.ref h0]) ++ List.replicate (1 - (lg_sl ([.ref h0])).length) Slot.unset).toArray = ls at hl ⊢
  have hl : lv_has ls 1 [(0, .ref h0)] := hl
  have hP : va_P (dC, dI) vwCl [(h0, .inr (4, [.int 0, .int 0, .long 0, .int 0, .int 0, .null, .int 0, .int 0]))] s.heap := hP
  have hK : va_K (dC, dI) vwCl [] s := hK
  obtain ⟨H, hH⟩ : ∃ H, H = s.heap := ⟨_, rfl⟩
  have hS : va_S A s.heap H [] := by rw [hH]; exact hS
  rw [← hH] at hP ⊢
  generalize ([] : List Loc) = locs at hS ⊢
  refine lv_aload_n hx hb dX4_init_0 rfl (lv_at hl 0 rfl) ?_
  refine W.objInit hx hb hown w0_ w1_ w2_ rfl (by rw [hml]; exact hl.1) rfl dX4_init_1 (Nat.le_of_ble_eq_true rfl) (Nat.le_of_ble_eq_true rfl) ?_
  refine W.eq (g2 := F0 m 4 ls []) rfl ?_
  refine lv_aload_n hx hb dX4_init_4 rfl (lv_at hl 0 rfl) ?_
  refine lv_sipush (v := 600) hx hb dX4_init_5 (by decide +kernel) ?_
  refine va_newa (atype := .byte) hx hb w3_ (ty := .byte) rfl hK hP hD hS hA (n := 600) (N' := 600) (a0 := (600, .inl (fun _ => 0))) (fun cA => zzb cA 600) (by decide +kernel) (by decide +kernel) (by decide +kernel) (by decide +kernel) (by decide +kernel) dX4_init_8 (fun hn1 kn1 H hK hP hD hS => ?_)
  have hP : va_P (dC, dI) vwCl [(h0, .inr (4, [.int 0, .int 0, .long 0, .int 0, .int 0, .null, .int 0, .int 0])), (hn1, .inl (kn1, 600, .inl (fun _ => 0)))] H := hP
  have hD : va_D A [(h0, .inr (4, [.int 0, .int 0, .long 0, .int 0, .int 0, .null, .int 0, .int 0])), (hn1, .inl (kn1, 600, .inl (fun _ => 0)))] := hD
  have hK : va_K (dC, dI) vwCl [(kn1, .byte)] s := hK
  refine W.widen (k := 1) (n := 600) (by decide +kernel) (by decide +kernel) ?_
  refine va_putF (D := (dC, dI)) (ci := 4) (v := .ref hn1) (ty := .array .byte) (C := RX4) (T := TX4) (N := 8) hx hb hts inlX4 tyX4 tyX4_ok nmX4 hown hK hP hD hS 0 rfl rfl 5 (by decide) w4_ (fun _ h9 => h9) rfl hin rfl (by decide +kernel) rfl rfl (Nat.le_of_ble_eq_true rfl) dX4_init_10 (fun H locs hP hD hS => ?_)
  have hP : va_P (dC, dI) vwCl [(h0, .inr (4, [.int 0, .int 0, .long 0, .int 0, .int 0, .ref hn1, .int 0, .int 0])), (hn1, .inl (kn1, 600, .inl (fun _ => 0)))] H := hP
  have hD : va_D A [(h0, .inr (4, [.int 0, .int 0, .long 0, .int 0, .int 0, .ref hn1, .int 0, .int 0])), (hn1, .inl (kn1, 600, .inl (fun _ => 0)))] := hD
  have hP9 := hP.sub (ws' := [(h0, .inr (4, [.int 0, .int 0, .long 0, .int 0, .int 0, .ref hn1, .int 0, .int 0])), (hn1, .inl (kn1, 600, .inl (fun _ => 0)))]) [0, 1] rfl
  have hD9 := hD.sub (ws' := [(h0, .inr (4, [.int 0, .int 0, .long 0, .int 0, .int 0, .ref hn1, .int 0, .int 0])), (hn1, .inl (kn1, 600, .inl (fun _ => 0)))]) [0, 1] (by decide) rfl
  exact W.vret hx hb hr (fun t ht hW => ⟨⟨([hn1], [kn1]), rfl, trivial, by rw [ht]; exact hP9, va_K.moved hW.alike hK, hD9⟩, hS.F ht⟩) hS.2.2 dX4_init_13
set_option maxHeartbeats 4000000 in
set_option maxRecDepth 100000 in
theorem mX3_init (l : Launch) (dC : Nat → ClassId) (dI : Nat → Nat → Nat) (h0 : Nat) (sz : Nat) (base : Nat × Nat × Nat) : Met l yX3_init (.code yX3_init cX3_init 1 none :: wsL_law) ({ frames := 1, cells := 14, slots := 526, locals := 20 }) (cPre (dC, dI) vwCl [.ref h0] sz base [(h0, .inr (3, [.int 0, .int 0, .int 0, .int 0, .null, .null, .null, .null, .null, .null, .null, .null, .null, .null, .null, .null, .null, .null]))] []) (va_Qv (fun _ => True) (fun (u : List Nat × List ClassId) t => va_P (dC, dI) vwCl [(h0, .inr (3, [.int 0, .int 0, .int 0, .int 0, .ref (u.1.getD 0 0), .ref (u.1.getD 1 0), .ref (u.1.getD 2 0), .ref (u.1.getD 3 0), .ref (u.1.getD 4 0), .ref (u.1.getD 5 0), .ref (u.1.getD 6 0), .ref (u.1.getD 7 0), .ref (u.1.getD 8 0), .ref (u.1.getD 9 0), .ref (u.1.getD 10 0), .ref (u.1.getD 11 0), .ref (u.1.getD 12 0), .ref (u.1.getD 13 0)])), ((u.1.getD 0 0), .inl ((u.2.getD 0 0), 6, .inl (fun _ => 0))), ((u.1.getD 1 0), .inl ((u.2.getD 1 0), 40, .inl (fun _ => 0))), ((u.1.getD 2 0), .inl ((u.2.getD 2 0), 40, .inl (fun _ => 0))), ((u.1.getD 3 0), .inl ((u.2.getD 3 0), 40, .inl (fun _ => 0))), ((u.1.getD 4 0), .inl ((u.2.getD 4 0), 40, .inr (.inl (fun _ => 0)))), ((u.1.getD 5 0), .inl ((u.2.getD 5 0), 40, .inl (fun _ => 0))), ((u.1.getD 6 0), .inl ((u.2.getD 6 0), 40, .inl (fun _ => 0))), ((u.1.getD 7 0), .inl ((u.2.getD 7 0), 40, .inl (fun _ => 0))), ((u.1.getD 8 0), .inl ((u.2.getD 8 0), 40, .inl (fun _ => 0))), ((u.1.getD 9 0), .inl ((u.2.getD 9 0), 40, .inl (fun _ => 0))), ((u.1.getD 10 0), .inl ((u.2.getD 10 0), 40, .inl (fun _ => 0))), ((u.1.getD 11 0), .inl ((u.2.getD 11 0), 40, .inl (fun _ => 0))), ((u.1.getD 12 0), .inl ((u.2.getD 12 0), 40, .inl (fun _ => 0))), ((u.1.getD 13 0), .inl ((u.2.getD 13 0), 40, .inl (fun _ => 0)))] t.heap ∧ va_K (dC, dI) vwCl [((u.2.getD 0 0), .int), ((u.2.getD 1 0), .int), ((u.2.getD 2 0), .int), ((u.2.getD 3 0), .int), ((u.2.getD 4 0), .long), ((u.2.getD 5 0), .int), ((u.2.getD 6 0), .int), ((u.2.getD 7 0), .int), ((u.2.getD 8 0), .int), ((u.2.getD 9 0), .int), ((u.2.getD 10 0), .int), ((u.2.getD 11 0), .int), ((u.2.getD 12 0), .int), ((u.2.getD 13 0), .int)] t ∧ va_D (va_A [(h0, .inr (3, [.int 0, .int 0, .int 0, .int 0, .null, .null, .null, .null, .null, .null, .null, .null, .null, .null, .null, .null, .null, .null]))] sz) [(h0, .inr (3, [.int 0, .int 0, .int 0, .int 0, .ref (u.1.getD 0 0), .ref (u.1.getD 1 0), .ref (u.1.getD 2 0), .ref (u.1.getD 3 0), .ref (u.1.getD 4 0), .ref (u.1.getD 5 0), .ref (u.1.getD 6 0), .ref (u.1.getD 7 0), .ref (u.1.getD 8 0), .ref (u.1.getD 9 0), .ref (u.1.getD 10 0), .ref (u.1.getD 11 0), .ref (u.1.getD 12 0), .ref (u.1.getD 13 0)])), ((u.1.getD 0 0), .inl ((u.2.getD 0 0), 6, .inl (fun _ => 0))), ((u.1.getD 1 0), .inl ((u.2.getD 1 0), 40, .inl (fun _ => 0))), ((u.1.getD 2 0), .inl ((u.2.getD 2 0), 40, .inl (fun _ => 0))), ((u.1.getD 3 0), .inl ((u.2.getD 3 0), 40, .inl (fun _ => 0))), ((u.1.getD 4 0), .inl ((u.2.getD 4 0), 40, .inr (.inl (fun _ => 0)))), ((u.1.getD 5 0), .inl ((u.2.getD 5 0), 40, .inl (fun _ => 0))), ((u.1.getD 6 0), .inl ((u.2.getD 6 0), 40, .inl (fun _ => 0))), ((u.1.getD 7 0), .inl ((u.2.getD 7 0), 40, .inl (fun _ => 0))), ((u.1.getD 8 0), .inl ((u.2.getD 8 0), 40, .inl (fun _ => 0))), ((u.1.getD 9 0), .inl ((u.2.getD 9 0), 40, .inl (fun _ => 0))), ((u.1.getD 10 0), .inl ((u.2.getD 10 0), 40, .inl (fun _ => 0))), ((u.1.getD 11 0), .inl ((u.2.getD 11 0), 40, .inl (fun _ => 0))), ((u.1.getD 12 0), .inl ((u.2.getD 12 0), 40, .inl (fun _ => 0))), ((u.1.getD 13 0), .inl ((u.2.getD 13 0), 40, .inl (fun _ => 0)))]) (va_A [(h0, .inr (3, [.int 0, .int 0, .int 0, .int 0, .null, .null, .null, .null, .null, .null, .null, .null, .null, .null, .null, .null, .null, .null]))] sz)) 14 526 (va_A [(h0, .inr (3, [.int 0, .int 0, .int 0, .int 0, .null, .null, .null, .null, .null, .null, .null, .null, .null, .null, .null, .null, .null, .null]))] sz) := by
  refine Met.ofW (cc := cX3_init) (maxL := 1) (ret := none) (by decide) rfl ?_
  intro p e s m args below meth c s₁ B hml hv
  obtain ⟨rfl, hsz, hP, hK, hD0, hE⟩ := hv
  have hx := B.exec
  have hb := B.bytes
  have hr := B.returns
  have hts : ∀ w ∈ wsL_law, _ := fun w h => atoms_spec (ws := .code yX3_init cX3_init 1 none :: wsL_law) B.pre w (List.mem_cons_of_mem _ h)
  have hown : s.vm.findClass RX3 = some m.cls := findClass_of_methodNamed B.named
  have hlocks := B.notSynchronized
  have hin : meth.name = "<init>" := (name_of_methodNamed B.named B.method).1
  have w0_ := hts _ q48
  have w1_ := hts _ q11
  have w2_ := hts _ q12
  have w3_ := hts _ q32
  have w4_ := hts _ q49
  have w5_ := hts _ q50
  have w6_ := hts _ q51
  have w7_ := hts _ q52
  have w8_ := hts _ q53
  have w9_ := hts _ q54
  have w10_ := hts _ q55
  have w11_ := hts _ q56
  have w12_ := hts _ q57
  have w13_ := hts _ q58
  have w14_ := hts _ q59
  have w15_ := hts _ q60
  have w16_ := hts _ q61
  have w17_ := hts _ q62
  have w18_ := hts _ q63
  subst hsz
  have hD := hD0.self (sz := s.heap.size)
  generalize hAe : va_A [(h0, .inr (3, [.int 0, .int 0, .int 0, .int 0, .null, .null, .null, .null, .null, .null, .null, .null, .null, .null, .null, .null, .null, .null]))] s.heap.size = A at hD ⊢
  have hA : ∀ q : Nat, s.heap.size ≤ q → A q := fun q h => by rw [← hAe]; exact Or.inr h
  have hAB : ∀ q : Nat, A q → base.1 ≤ q := fun q h => by rw [← hAe] at h; exact h.elim (fun ⟨k, e, hk⟩ => hD0.2 k _ hk) (fun hk => Nat.le_trans hE.1 hk)
  have hS : va_S A s.heap s.heap [] := va_S.rf
  have hl := lv_entry ([.ref h0]) (n := 1) (Nat.le_of_ble_eq_true rfl)
  rw [lg_entry_eq]
  generalize (lg_sl ([.ref h0]) ++ List.replicate (1 - (lg_sl ([.ref h0])).length) Slot.unset).toArray = ls at hl ⊢
  have hl : lv_has ls 1 [(0, .ref h0)] := hl
  have hP : va_P (dC, dI) vwCl [(h0, .inr (3, [.int 0, .int 0, .int 0, .int 0, .null, .null, .null, .null, .null, .null, .null, .null, .null, .null, .null, .null, .null, .null]))] s.heap := hP
  have hK : va_K (dC, dI) vwCl [] s := hK
  obtain ⟨H, hH⟩ : ∃ H, H = s.heap := ⟨_, rfl⟩
  have hS : va_S A s.heap H [] := by rw [hH]; exact hS
  rw [← hH] at hP ⊢
  generalize ([] : List Loc) = locs at hS ⊢
  refine lv_aload_n hx hb dX3_init_0 rfl (lv_at hl 0 rfl) ?_
  refine W.objInit hx hb hown w0_ w1_ w2_ rfl (by rw [hml]; exact hl.1) rfl dX3_init_1 (Nat.le_of_ble_eq_true rfl) (Nat.le_of_ble_eq_true rfl) ?_
  refine W.eq (g2 := F0 m 4 ls []) rfl ?_
  refine lv_aload_n hx hb dX3_init_4 rfl (lv_at hl 0 rfl) ?_
  refine lv_bipush (v := 6) hx hb dX3_init_5 (by decide +kernel) ?_
  refine va_newa (atype := .int) hx hb w3_ (ty := .int) rfl hK hP hD hS hA (n := 6) (N' := 6) (a0 := (6, .inl (fun _ => 0))) (fun cA => zzi cA 6) (by decide +kernel) (by decide +kernel) (by decide +kernel) (by decide +kernel) (by decide +kernel) dX3_init_7 (fun hn1 kn1 H hK hP hD hS => ?_)
  have hP : va_P (dC, dI) vwCl [(h0, .inr (3, [.int 0, .int 0, .int 0, .int 0, .null, .null, .null, .null, .null, .null, .null, .null, .null, .null, .null, .null, .null, .null])), (hn1, .inl (kn1, 6, .inl (fun _ => 0)))] H := hP
  have hD : va_D A [(h0, .inr (3, [.int 0, .int 0, .int 0, .int 0, .null, .null, .null, .null, .null, .null, .null, .null, .null, .null, .null, .null, .null, .null])), (hn1, .inl (kn1, 6, .inl (fun _ => 0)))] := hD
  have hK : va_K (dC, dI) vwCl [(kn1, .int)] s := hK
  refine W.widen (k := 1) (n := 6) (by decide +kernel) (by decide +kernel) ?_
  refine va_putF (D := (dC, dI)) (ci := 3) (v := .ref hn1) (ty := .array .int) (C := RX3) (T := TX3) (N := 18) hx hb hts inlX3 tyX3 tyX3_ok nmX3 hown hK hP hD hS 0 rfl rfl 4 (by decide) w4_ (fun _ h9 => h9) rfl hin rfl (by decide +kernel) rfl rfl (Nat.le_of_ble_eq_true rfl) dX3_init_9 (fun H locs hP hD hS => ?_)
  have hP : va_P (dC, dI) vwCl [(h0, .inr (3, [.int 0, .int 0, .int 0, .int 0, .ref hn1, .null, .null, .null, .null, .null, .null, .null, .null, .null, .null, .null, .null, .null])), (hn1, .inl (kn1, 6, .inl (fun _ => 0)))] H := hP
  have hD : va_D A [(h0, .inr (3, [.int 0, .int 0, .int 0, .int 0, .ref hn1, .null, .null, .null, .null, .null, .null, .null, .null, .null, .null, .null, .null, .null])), (hn1, .inl (kn1, 6, .inl (fun _ => 0)))] := hD
  refine lv_aload_n hx hb dX3_init_12 rfl (lv_at hl 0 rfl) ?_
  refine lv_bipush (v := 40) hx hb dX3_init_13 (by decide +kernel) ?_
  refine va_newa (atype := .int) hx hb w3_ (ty := .int) rfl hK hP hD hS hA (n := 40) (N' := 40) (a0 := (40, .inl (fun _ => 0))) (fun cA => zzi cA 40) (by decide +kernel) (by decide +kernel) (by decide +kernel) (by decide +kernel) (by decide +kernel) dX3_init_15 (fun hn2 kn2 H hK hP hD hS => ?_)
  have hP : va_P (dC, dI) vwCl [(h0, .inr (3, [.int 0, .int 0, .int 0, .int 0, .ref hn1, .null, .null, .null, .null, .null, .null, .null, .null, .null, .null, .null, .null, .null])), (hn1, .inl (kn1, 6, .inl (fun _ => 0))), (hn2, .inl (kn2, 40, .inl (fun _ => 0)))] H := hP
  have hD : va_D A [(h0, .inr (3, [.int 0, .int 0, .int 0, .int 0, .ref hn1, .null, .null, .null, .null, .null, .null, .null, .null, .null, .null, .null, .null, .null])), (hn1, .inl (kn1, 6, .inl (fun _ => 0))), (hn2, .inl (kn2, 40, .inl (fun _ => 0)))] := hD
  have hK : va_K (dC, dI) vwCl [(kn1, .int), (kn2, .int)] s := hK
  refine W.widen (k := 2) (n := 46) (by decide +kernel) (by decide +kernel) ?_
  refine va_putF (D := (dC, dI)) (ci := 3) (v := .ref hn2) (ty := .array .int) (C := RX3) (T := TX3) (N := 18) hx hb hts inlX3 tyX3 tyX3_ok nmX3 hown hK hP hD hS 0 rfl rfl 5 (by decide) w5_ (fun _ h9 => h9) rfl hin rfl (by decide +kernel) rfl rfl (Nat.le_of_ble_eq_true rfl) dX3_init_17 (fun H locs hP hD hS => ?_)
  have hP : va_P (dC, dI) vwCl [(h0, .inr (3, [.int 0, .int 0, .int 0, .int 0, .ref hn1, .ref hn2, .null, .null, .null, .null, .null, .null, .null, .null, .null, .null, .null, .null])), (hn1, .inl (kn1, 6, .inl (fun _ => 0))), (hn2, .inl (kn2, 40, .inl (fun _ => 0)))] H := hP
  have hD : va_D A [(h0, .inr (3, [.int 0, .int 0, .int 0, .int 0, .ref hn1, .ref hn2, .null, .null, .null, .null, .null, .null, .null, .null, .null, .null, .null, .null])), (hn1, .inl (kn1, 6, .inl (fun _ => 0))), (hn2, .inl (kn2, 40, .inl (fun _ => 0)))] := hD
  refine lv_aload_n hx hb dX3_init_20 rfl (lv_at hl 0 rfl) ?_
  refine lv_bipush (v := 40) hx hb dX3_init_21 (by decide +kernel) ?_
  refine va_newa (atype := .int) hx hb w3_ (ty := .int) rfl hK hP hD hS hA (n := 40) (N' := 40) (a0 := (40, .inl (fun _ => 0))) (fun cA => zzi cA 40) (by decide +kernel) (by decide +kernel) (by decide +kernel) (by decide +kernel) (by decide +kernel) dX3_init_23 (fun hn3 kn3 H hK hP hD hS => ?_)
  have hP : va_P (dC, dI) vwCl [(h0, .inr (3, [.int 0, .int 0, .int 0, .int 0, .ref hn1, .ref hn2, .null, .null, .null, .null, .null, .null, .null, .null, .null, .null, .null, .null])), (hn1, .inl (kn1, 6, .inl (fun _ => 0))), (hn2, .inl (kn2, 40, .inl (fun _ => 0))), (hn3, .inl (kn3, 40, .inl (fun _ => 0)))] H := hP
  have hD : va_D A [(h0, .inr (3, [.int 0, .int 0, .int 0, .int 0, .ref hn1, .ref hn2, .null, .null, .null, .null, .null, .null, .null, .null, .null, .null, .null, .null])), (hn1, .inl (kn1, 6, .inl (fun _ => 0))), (hn2, .inl (kn2, 40, .inl (fun _ => 0))), (hn3, .inl (kn3, 40, .inl (fun _ => 0)))] := hD
  have hK : va_K (dC, dI) vwCl [(kn1, .int), (kn2, .int), (kn3, .int)] s := hK
  refine W.widen (k := 3) (n := 86) (by decide +kernel) (by decide +kernel) ?_
  refine va_putF (D := (dC, dI)) (ci := 3) (v := .ref hn3) (ty := .array .int) (C := RX3) (T := TX3) (N := 18) hx hb hts inlX3 tyX3 tyX3_ok nmX3 hown hK hP hD hS 0 rfl rfl 6 (by decide) w6_ (fun _ h9 => h9) rfl hin rfl (by decide +kernel) rfl rfl (Nat.le_of_ble_eq_true rfl) dX3_init_25 (fun H locs hP hD hS => ?_)
  have hP : va_P (dC, dI) vwCl [(h0, .inr (3, [.int 0, .int 0, .int 0, .int 0, .ref hn1, .ref hn2, .ref hn3, .null, .null, .null, .null, .null, .null, .null, .null, .null, .null, .null])), (hn1, .inl (kn1, 6, .inl (fun _ => 0))), (hn2, .inl (kn2, 40, .inl (fun _ => 0))), (hn3, .inl (kn3, 40, .inl (fun _ => 0)))] H := hP
  have hD : va_D A [(h0, .inr (3, [.int 0, .int 0, .int 0, .int 0, .ref hn1, .ref hn2, .ref hn3, .null, .null, .null, .null, .null, .null, .null, .null, .null, .null, .null])), (hn1, .inl (kn1, 6, .inl (fun _ => 0))), (hn2, .inl (kn2, 40, .inl (fun _ => 0))), (hn3, .inl (kn3, 40, .inl (fun _ => 0)))] := hD
  refine lv_aload_n hx hb dX3_init_28 rfl (lv_at hl 0 rfl) ?_
  refine lv_bipush (v := 40) hx hb dX3_init_29 (by decide +kernel) ?_
  refine va_newa (atype := .int) hx hb w3_ (ty := .int) rfl hK hP hD hS hA (n := 40) (N' := 40) (a0 := (40, .inl (fun _ => 0))) (fun cA => zzi cA 40) (by decide +kernel) (by decide +kernel) (by decide +kernel) (by decide +kernel) (by decide +kernel) dX3_init_31 (fun hn4 kn4 H hK hP hD hS => ?_)
  have hP : va_P (dC, dI) vwCl [(h0, .inr (3, [.int 0, .int 0, .int 0, .int 0, .ref hn1, .ref hn2, .ref hn3, .null, .null, .null, .null, .null, .null, .null, .null, .null, .null, .null])), (hn1, .inl (kn1, 6, .inl (fun _ => 0))), (hn2, .inl (kn2, 40, .inl (fun _ => 0))), (hn3, .inl (kn3, 40, .inl (fun _ => 0))), (hn4, .inl (kn4, 40, .inl (fun _ => 0)))] H := hP
  have hD : va_D A [(h0, .inr (3, [.int 0, .int 0, .int 0, .int 0, .ref hn1, .ref hn2, .ref hn3, .null, .null, .null, .null, .null, .null, .null, .null, .null, .null, .null])), (hn1, .inl (kn1, 6, .inl (fun _ => 0))), (hn2, .inl (kn2, 40, .inl (fun _ => 0))), (hn3, .inl (kn3, 40, .inl (fun _ => 0))), (hn4, .inl (kn4, 40, .inl (fun _ => 0)))] := hD
  have hK : va_K (dC, dI) vwCl [(kn1, .int), (kn2, .int), (kn3, .int), (kn4, .int)] s := hK
  refine W.widen (k := 4) (n := 126) (by decide +kernel) (by decide +kernel) ?_
  refine va_putF (D := (dC, dI)) (ci := 3) (v := .ref hn4) (ty := .array .int) (C := RX3) (T := TX3) (N := 18) hx hb hts inlX3 tyX3 tyX3_ok nmX3 hown hK hP hD hS 0 rfl rfl 7 (by decide) w7_ (fun _ h9 => h9) rfl hin rfl (by decide +kernel) rfl rfl (Nat.le_of_ble_eq_true rfl) dX3_init_33 (fun H locs hP hD hS => ?_)
  have hP : va_P (dC, dI) vwCl [(h0, .inr (3, [.int 0, .int 0, .int 0, .int 0, .ref hn1, .ref hn2, .ref hn3, .ref hn4, .null, .null, .null, .null, .null, .null, .null, .null, .null, .null])), (hn1, .inl (kn1, 6, .inl (fun _ => 0))), (hn2, .inl (kn2, 40, .inl (fun _ => 0))), (hn3, .inl (kn3, 40, .inl (fun _ => 0))), (hn4, .inl (kn4, 40, .inl (fun _ => 0)))] H := hP
  have hD : va_D A [(h0, .inr (3, [.int 0, .int 0, .int 0, .int 0, .ref hn1, .ref hn2, .ref hn3, .ref hn4, .null, .null, .null, .null, .null, .null, .null, .null, .null, .null])), (hn1, .inl (kn1, 6, .inl (fun _ => 0))), (hn2, .inl (kn2, 40, .inl (fun _ => 0))), (hn3, .inl (kn3, 40, .inl (fun _ => 0))), (hn4, .inl (kn4, 40, .inl (fun _ => 0)))] := hD
  refine lv_aload_n hx hb dX3_init_36 rfl (lv_at hl 0 rfl) ?_
  refine lv_bipush (v := 40) hx hb dX3_init_37 (by decide +kernel) ?_
  refine va_newa (atype := .long) hx hb w8_ (ty := .long) rfl hK hP hD hS hA (n := 40) (N' := 40) (a0 := (40, .inr (.inl (fun _ => 0)))) (fun cA => zzl cA 40) (by decide +kernel) (by decide +kernel) (by decide +kernel) (by decide +kernel) (by decide +kernel) dX3_init_39 (fun hn5 kn5 H hK hP hD hS => ?_)
  have hP : va_P (dC, dI) vwCl [(h0, .inr (3, [.int 0, .int 0, .int 0, .int 0, .ref hn1, .ref hn2, .ref hn3, .ref hn4, .null, .null, .null, .null, .null, .null, .null, .null, .null, .null])), (hn1, .inl (kn1, 6, .inl (fun _ => 0))), (hn2, .inl (kn2, 40, .inl (fun _ => 0))), (hn3, .inl (kn3, 40, .inl (fun _ => 0))), (hn4, .inl (kn4, 40, .inl (fun _ => 0))), (hn5, .inl (kn5, 40, .inr (.inl (fun _ => 0))))] H := hP
  have hD : va_D A [(h0, .inr (3, [.int 0, .int 0, .int 0, .int 0, .ref hn1, .ref hn2, .ref hn3, .ref hn4, .null, .null, .null, .null, .null, .null, .null, .null, .null, .null])), (hn1, .inl (kn1, 6, .inl (fun _ => 0))), (hn2, .inl (kn2, 40, .inl (fun _ => 0))), (hn3, .inl (kn3, 40, .inl (fun _ => 0))), (hn4, .inl (kn4, 40, .inl (fun _ => 0))), (hn5, .inl (kn5, 40, .inr (.inl (fun _ => 0))))] := hD
  have hK : va_K (dC, dI) vwCl [(kn1, .int), (kn2, .int), (kn3, .int), (kn4, .int), (kn5, .long)] s := hK
  refine W.widen (k := 5) (n := 166) (by decide +kernel) (by decide +kernel) ?_
  refine va_putF (D := (dC, dI)) (ci := 3) (v := .ref hn5) (ty := .array .long) (C := RX3) (T := TX3) (N := 18) hx hb hts inlX3 tyX3 tyX3_ok nmX3 hown hK hP hD hS 0 rfl rfl 8 (by decide) w9_ (fun _ h9 => h9) rfl hin rfl (by decide +kernel) rfl rfl (Nat.le_of_ble_eq_true rfl) dX3_init_41 (fun H locs hP hD hS => ?_)
  have hP : va_P (dC, dI) vwCl [(h0, .inr (3, [.int 0, .int 0, .int 0, .int 0, .ref hn1, .ref hn2, .ref hn3, .ref hn4, .ref hn5, .null, .null, .null, .null, .null, .null, .null, .null, .null])), (hn1, .inl (kn1, 6, .inl (fun _ => 0))), (hn2, .inl (kn2, 40, .inl (fun _ => 0))), (hn3, .inl (kn3, 40, .inl (fun _ => 0))), (hn4, .inl (kn4, 40, .inl (fun _ => 0))), (hn5, .inl (kn5, 40, .inr (.inl (fun _ => 0))))] H := hP
  have hD : va_D A [(h0, .inr (3, [.int 0, .int 0, .int 0, .int 0, .ref hn1, .ref hn2, .ref hn3, .ref hn4, .ref hn5, .null, .null, .null, .null, .null, .null, .null, .null, .null])), (hn1, .inl (kn1, 6, .inl (fun _ => 0))), (hn2, .inl (kn2, 40, .inl (fun _ => 0))), (hn3, .inl (kn3, 40, .inl (fun _ => 0))), (hn4, .inl (kn4, 40, .inl (fun _ => 0))), (hn5, .inl (kn5, 40, .inr (.inl (fun _ => 0))))] := hD
  refine lv_aload_n hx hb dX3_init_44 rfl (lv_at hl 0 rfl) ?_
  refine lv_bipush (v := 40) hx hb dX3_init_45 (by decide +kernel) ?_
  refine va_newa (atype := .int) hx hb w3_ (ty := .int) rfl hK hP hD hS hA (n := 40) (N' := 40) (a0 := (40, .inl (fun _ => 0))) (fun cA => zzi cA 40) (by decide +kernel) (by decide +kernel) (by decide +kernel) (by decide +kernel) (by decide +kernel) dX3_init_47 (fun hn6 kn6 H hK hP hD hS => ?_)
  have hP : va_P (dC, dI) vwCl [(h0, .inr (3, [.int 0, .int 0, .int 0, .int 0, .ref hn1, .ref hn2, .ref hn3, .ref hn4, .ref hn5, .null, .null, .null, .null, .null, .null, .null, .null, .null])), (hn1, .inl (kn1, 6, .inl (fun _ => 0))), (hn2, .inl (kn2, 40, .inl (fun _ => 0))), (hn3, .inl (kn3, 40, .inl (fun _ => 0))), (hn4, .inl (kn4, 40, .inl (fun _ => 0))), (hn5, .inl (kn5, 40, .inr (.inl (fun _ => 0)))), (hn6, .inl (kn6, 40, .inl (fun _ => 0)))] H := hP
  have hD : va_D A [(h0, .inr (3, [.int 0, .int 0, .int 0, .int 0, .ref hn1, .ref hn2, .ref hn3, .ref hn4, .ref hn5, .null, .null, .null, .null, .null, .null, .null, .null, .null])), (hn1, .inl (kn1, 6, .inl (fun _ => 0))), (hn2, .inl (kn2, 40, .inl (fun _ => 0))), (hn3, .inl (kn3, 40, .inl (fun _ => 0))), (hn4, .inl (kn4, 40, .inl (fun _ => 0))), (hn5, .inl (kn5, 40, .inr (.inl (fun _ => 0)))), (hn6, .inl (kn6, 40, .inl (fun _ => 0)))] := hD
  have hK : va_K (dC, dI) vwCl [(kn1, .int), (kn2, .int), (kn3, .int), (kn4, .int), (kn5, .long), (kn6, .int)] s := hK
  refine W.widen (k := 6) (n := 206) (by decide +kernel) (by decide +kernel) ?_
  refine va_putF (D := (dC, dI)) (ci := 3) (v := .ref hn6) (ty := .array .int) (C := RX3) (T := TX3) (N := 18) hx hb hts inlX3 tyX3 tyX3_ok nmX3 hown hK hP hD hS 0 rfl rfl 9 (by decide) w10_ (fun _ h9 => h9) rfl hin rfl (by decide +kernel) rfl rfl (Nat.le_of_ble_eq_true rfl) dX3_init_49 (fun H locs hP hD hS => ?_)
  have hP : va_P (dC, dI) vwCl [(h0, .inr (3, [.int 0, .int 0, .int 0, .int 0, .ref hn1, .ref hn2, .ref hn3, .ref hn4, .ref hn5, .ref hn6, .null, .null, .null, .null, .null, .null, .null, .null])), (hn1, .inl (kn1, 6, .inl (fun _ => 0))), (hn2, .inl (kn2, 40, .inl (fun _ => 0))), (hn3, .inl (kn3, 40, .inl (fun _ => 0))), (hn4, .inl (kn4, 40, .inl (fun _ => 0))), (hn5, .inl (kn5, 40, .inr (.inl (fun _ => 0)))), (hn6, .inl (kn6, 40, .inl (fun _ => 0)))] H := hP
  have hD : va_D A [(h0, .inr (3, [.int 0, .int 0, .int 0, .int 0, .ref hn1, .ref hn2, .ref hn3, .ref hn4, .ref hn5, .ref hn6, .null, .null, .null, .null, .null, .null, .null, .null])), (hn1, .inl (kn1, 6, .inl (fun _ => 0))), (hn2, .inl (kn2, 40, .inl (fun _ => 0))), (hn3, .inl (kn3, 40, .inl (fun _ => 0))), (hn4, .inl (kn4, 40, .inl (fun _ => 0))), (hn5, .inl (kn5, 40, .inr (.inl (fun _ => 0)))), (hn6, .inl (kn6, 40, .inl (fun _ => 0)))] := hD
  refine lv_aload_n hx hb dX3_init_52 rfl (lv_at hl 0 rfl) ?_
  refine lv_bipush (v := 40) hx hb dX3_init_53 (by decide +kernel) ?_
  refine va_newa (atype := .int) hx hb w3_ (ty := .int) rfl hK hP hD hS hA (n := 40) (N' := 40) (a0 := (40, .inl (fun _ => 0))) (fun cA => zzi cA 40) (by decide +kernel) (by decide +kernel) (by decide +kernel) (by decide +kernel) (by decide +kernel) dX3_init_55 (fun hn7 kn7 H hK hP hD hS => ?_)
  have hP : va_P (dC, dI) vwCl [(h0, .inr (3, [.int 0, .int 0, .int 0, .int 0, .ref hn1, .ref hn2, .ref hn3, .ref hn4, .ref hn5, .ref hn6, .null, .null, .null, .null, .null, .null, .null, .null])), (hn1, .inl (kn1, 6, .inl (fun _ => 0))), (hn2, .inl (kn2, 40, .inl (fun _ => 0))), (hn3, .inl (kn3, 40, .inl (fun _ => 0))), (hn4, .inl (kn4, 40, .inl (fun _ => 0))), (hn5, .inl (kn5, 40, .inr (.inl (fun _ => 0)))), (hn6, .inl (kn6, 40, .inl (fun _ => 0))), (hn7, .inl (kn7, 40, .inl (fun _ => 0)))] H := hP
  have hD : va_D A [(h0, .inr (3, [.int 0, .int 0, .int 0, .int 0, .ref hn1, .ref hn2, .ref hn3, .ref hn4, .ref hn5, .ref hn6, .null, .null, .null, .null, .null, .null, .null, .null])), (hn1, .inl (kn1, 6, .inl (fun _ => 0))), (hn2, .inl (kn2, 40, .inl (fun _ => 0))), (hn3, .inl (kn3, 40, .inl (fun _ => 0))), (hn4, .inl (kn4, 40, .inl (fun _ => 0))), (hn5, .inl (kn5, 40, .inr (.inl (fun _ => 0)))), (hn6, .inl (kn6, 40, .inl (fun _ => 0))), (hn7, .inl (kn7, 40, .inl (fun _ => 0)))] := hD
  have hK : va_K (dC, dI) vwCl [(kn1, .int), (kn2, .int), (kn3, .int), (kn4, .int), (kn5, .long), (kn6, .int), (kn7, .int)] s := hK
  refine W.widen (k := 7) (n := 246) (by decide +kernel) (by decide +kernel) ?_
  refine va_putF (D := (dC, dI)) (ci := 3) (v := .ref hn7) (ty := .array .int) (C := RX3) (T := TX3) (N := 18) hx hb hts inlX3 tyX3 tyX3_ok nmX3 hown hK hP hD hS 0 rfl rfl 10 (by decide) w11_ (fun _ h9 => h9) rfl hin rfl (by decide +kernel) rfl rfl (Nat.le_of_ble_eq_true rfl) dX3_init_57 (fun H locs hP hD hS => ?_)
  have hP : va_P (dC, dI) vwCl [(h0, .inr (3, [.int 0, .int 0, .int 0, .int 0, .ref hn1, .ref hn2, .ref hn3, .ref hn4, .ref hn5, .ref hn6, .ref hn7, .null, .null, .null, .null, .null, .null, .null])), (hn1, .inl (kn1, 6, .inl (fun _ => 0))), (hn2, .inl (kn2, 40, .inl (fun _ => 0))), (hn3, .inl (kn3, 40, .inl (fun _ => 0))), (hn4, .inl (kn4, 40, .inl (fun _ => 0))), (hn5, .inl (kn5, 40, .inr (.inl (fun _ => 0)))), (hn6, .inl (kn6, 40, .inl (fun _ => 0))), (hn7, .inl (kn7, 40, .inl (fun _ => 0)))] H := hP
  have hD : va_D A [(h0, .inr (3, [.int 0, .int 0, .int 0, .int 0, .ref hn1, .ref hn2, .ref hn3, .ref hn4, .ref hn5, .ref hn6, .ref hn7, .null, .null, .null, .null, .null, .null, .null])), (hn1, .inl (kn1, 6, .inl (fun _ => 0))), (hn2, .inl (kn2, 40, .inl (fun _ => 0))), (hn3, .inl (kn3, 40, .inl (fun _ => 0))), (hn4, .inl (kn4, 40, .inl (fun _ => 0))), (hn5, .inl (kn5, 40, .inr (.inl (fun _ => 0)))), (hn6, .inl (kn6, 40, .inl (fun _ => 0))), (hn7, .inl (kn7, 40, .inl (fun _ => 0)))] := hD
  refine lv_aload_n hx hb dX3_init_60 rfl (lv_at hl 0 rfl) ?_
  refine lv_bipush (v := 40) hx hb dX3_init_61 (by decide +kernel) ?_
  refine va_newa (atype := .int) hx hb w3_ (ty := .int) rfl hK hP hD hS hA (n := 40) (N' := 40) (a0 := (40, .inl (fun _ => 0))) (fun cA => zzi cA 40) (by decide +kernel) (by decide +kernel) (by decide +kernel) (by decide +kernel) (by decide +kernel) dX3_init_63 (fun hn8 kn8 H hK hP hD hS => ?_)
  have hP : va_P (dC, dI) vwCl [(h0, .inr (3, [.int 0, .int 0, .int 0, .int 0, .ref hn1, .ref hn2, .ref hn3, .ref hn4, .ref hn5, .ref hn6, .ref hn7, .null, .null, .null, .null, .null, .null, .null])), (hn1, .inl (kn1, 6, .inl (fun _ => 0))), (hn2, .inl (kn2, 40, .inl (fun _ => 0))), (hn3, .inl (kn3, 40, .inl (fun _ => 0))), (hn4, .inl (kn4, 40, .inl (fun _ => 0))), (hn5, .inl (kn5, 40, .inr (.inl (fun _ => 0)))), (hn6, .inl (kn6, 40, .inl (fun _ => 0))), (hn7, .inl (kn7, 40, .inl (fun _ => 0))), (hn8, .inl (kn8, 40, .inl (fun _ => 0)))] H := hP
  have hD : va_D A [(h0, .inr (3, [.int 0, .int 0, .int 0, .int 0, .ref hn1, .ref hn2, .ref hn3, .ref hn4, .ref hn5, .ref hn6, .ref hn7, .null, .null, .null, .null, .null, .null, .null])), (hn1, .inl (kn1, 6, .inl (fun _ => 0))), (hn2, .inl (kn2, 40, .inl (fun _ => 0))), (hn3, .inl (kn3, 40, .inl (fun _ => 0))), (hn4, .inl (kn4, 40, .inl (fun _ => 0))), (hn5, .inl (kn5, 40, .inr (.inl (fun _ => 0)))), (hn6, .inl (kn6, 40, .inl (fun _ => 0))), (hn7, .inl (kn7, 40, .inl (fun _ => 0))), (hn8, .inl (kn8, 40, .inl (fun _ => 0)))] := hD
  have hK : va_K (dC, dI) vwCl [(kn1, .int), (kn2, .int), (kn3, .int), (kn4, .int), (kn5, .long), (kn6, .int), (kn7, .int), (kn8, .int)] s := hK
  refine W.widen (k := 8) (n := 286) (by decide +kernel) (by decide +kernel) ?_
  refine va_putF (D := (dC, dI)) (ci := 3) (v := .ref hn8) (ty := .array .int) (C := RX3) (T := TX3) (N := 18) hx hb hts inlX3 tyX3 tyX3_ok nmX3 hown hK hP hD hS 0 rfl rfl 11 (by decide) w12_ (fun _ h9 => h9) rfl hin rfl (by decide +kernel) rfl rfl (Nat.le_of_ble_eq_true rfl) dX3_init_65 (fun H locs hP hD hS => ?_)
  have hP : va_P (dC, dI) vwCl [(h0, .inr (3, [.int 0, .int 0, .int 0, .int 0, .ref hn1, .ref hn2, .ref hn3, .ref hn4, .ref hn5, .ref hn6, .ref hn7, .ref hn8, .null, .null, .null, .null, .null, .null])), (hn1, .inl (kn1, 6, .inl (fun _ => 0))), (hn2, .inl (kn2, 40, .inl (fun _ => 0))), (hn3, .inl (kn3, 40, .inl (fun _ => 0))), (hn4, .inl (kn4, 40, .inl (fun _ => 0))), (hn5, .inl (kn5, 40, .inr (.inl (fun _ => 0)))), (hn6, .inl (kn6, 40, .inl (fun _ => 0))), (hn7, .inl (kn7, 40, .inl (fun _ => 0))), (hn8, .inl (kn8, 40, .inl (fun _ => 0)))] H := hP
  have hD : va_D A [(h0, .inr (3, [.int 0, .int 0, .int 0, .int 0, .ref hn1, .ref hn2, .ref hn3, .ref hn4, .ref hn5, .ref hn6, .ref hn7, .ref hn8, .null, .null, .null, .null, .null, .null])), (hn1, .inl (kn1, 6, .inl (fun _ => 0))), (hn2, .inl (kn2, 40, .inl (fun _ => 0))), (hn3, .inl (kn3, 40, .inl (fun _ => 0))), (hn4, .inl (kn4, 40, .inl (fun _ => 0))), (hn5, .inl (kn5, 40, .inr (.inl (fun _ => 0)))), (hn6, .inl (kn6, 40, .inl (fun _ => 0))), (hn7, .inl (kn7, 40, .inl (fun _ => 0))), (hn8, .inl (kn8, 40, .inl (fun _ => 0)))] := hD
  refine lv_aload_n hx hb dX3_init_68 rfl (lv_at hl 0 rfl) ?_
  refine lv_bipush (v := 40) hx hb dX3_init_69 (by decide +kernel) ?_
  refine va_newa (atype := .int) hx hb w3_ (ty := .int) rfl hK hP hD hS hA (n := 40) (N' := 40) (a0 := (40, .inl (fun _ => 0))) (fun cA => zzi cA 40) (by decide +kernel) (by decide +kernel) (by decide +kernel) (by decide +kernel) (by decide +kernel) dX3_init_71 (fun hn9 kn9 H hK hP hD hS => ?_)
  have hP : va_P (dC, dI) vwCl [(h0, .inr (3, [.int 0, .int 0, .int 0, .int 0, .ref hn1, .ref hn2, .ref hn3, .ref hn4, .ref hn5, .ref hn6, .ref hn7, .ref hn8, .null, .null, .null, .null, .null, .null])), (hn1, .inl (kn1, 6, .inl (fun _ => 0))), (hn2, .inl (kn2, 40, .inl (fun _ => 0))), (hn3, .inl (kn3, 40, .inl (fun _ => 0))), (hn4, .inl (kn4, 40, .inl (fun _ => 0))), (hn5, .inl (kn5, 40, .inr (.inl (fun _ => 0)))), (hn6, .inl (kn6, 40, .inl (fun _ => 0))), (hn7, .inl (kn7, 40, .inl (fun _ => 0))), (hn8, .inl (kn8, 40, .inl (fun _ => 0))), (hn9, .inl (kn9, 40, .inl (fun _ => 0)))] H := hP
  have hD : va_D A [(h0, .inr (3, [.int 0, .int 0, .int 0, .int 0, .ref hn1, .ref hn2, .ref hn3, .ref hn4, .ref hn5, .ref hn6, .ref hn7, .ref hn8, .null, .null, .null, .null, .null, .null])), (hn1, .inl (kn1, 6, .inl (fun _ => 0))), (hn2, .inl (kn2, 40, .inl (fun _ => 0))), (hn3, .inl (kn3, 40, .inl (fun _ => 0))), (hn4, .inl (kn4, 40, .inl (fun _ => 0))), (hn5, .inl (kn5, 40, .inr (.inl (fun _ => 0)))), (hn6, .inl (kn6, 40, .inl (fun _ => 0))), (hn7, .inl (kn7, 40, .inl (fun _ => 0))), (hn8, .inl (kn8, 40, .inl (fun _ => 0))), (hn9, .inl (kn9, 40, .inl (fun _ => 0)))] := hD
  have hK : va_K (dC, dI) vwCl [(kn1, .int), (kn2, .int), (kn3, .int), (kn4, .int), (kn5, .long), (kn6, .int), (kn7, .int), (kn8, .int), (kn9, .int)] s := hK
  refine W.widen (k := 9) (n := 326) (by decide +kernel) (by decide +kernel) ?_
  refine va_putF (D := (dC, dI)) (ci := 3) (v := .ref hn9) (ty := .array .int) (C := RX3) (T := TX3) (N := 18) hx hb hts inlX3 tyX3 tyX3_ok nmX3 hown hK hP hD hS 0 rfl rfl 12 (by decide) w13_ (fun _ h9 => h9) rfl hin rfl (by decide +kernel) rfl rfl (Nat.le_of_ble_eq_true rfl) dX3_init_73 (fun H locs hP hD hS => ?_)
  have hP : va_P (dC, dI) vwCl [(h0, .inr (3, [.int 0, .int 0, .int 0, .int 0, .ref hn1, .ref hn2, .ref hn3, .ref hn4, .ref hn5, .ref hn6, .ref hn7, .ref hn8, .ref hn9, .null, .null, .null, .null, .null])), (hn1, .inl (kn1, 6, .inl (fun _ => 0))), (hn2, .inl (kn2, 40, .inl (fun _ => 0))), (hn3, .inl (kn3, 40, .inl (fun _ => 0))), (hn4, .inl (kn4, 40, .inl (fun _ => 0))), (hn5, .inl (kn5, 40, .inr (.inl (fun _ => 0)))), (hn6, .inl (kn6, 40, .inl (fun _ => 0))), (hn7, .inl (kn7, 40, .inl (fun _ => 0))), (hn8, .inl (kn8, 40, .inl (fun _ => 0))), (hn9, .inl (kn9, 40, .inl (fun _ => 0)))] H := hP
  have hD : va_D A [(h0, .inr (3, [.int 0, .int 0, .int 0, .int 0, .ref hn1, .ref hn2, .ref hn3, .ref hn4, .ref hn5, .ref hn6, .ref hn7, .ref hn8, .ref hn9, .null, .null, .null, .null, .null])), (hn1, .inl (kn1, 6, .inl (fun _ => 0))), (hn2, .inl (kn2, 40, .inl (fun _ => 0))), (hn3, .inl (kn3, 40, .inl (fun _ => 0))), (hn4, .inl (kn4, 40, .inl (fun _ => 0))), (hn5, .inl (kn5, 40, .inr (.inl (fun _ => 0)))), (hn6, .inl (kn6, 40, .inl (fun _ => 0))), (hn7, .inl (kn7, 40, .inl (fun _ => 0))), (hn8, .inl (kn8, 40, .inl (fun _ => 0))), (hn9, .inl (kn9, 40, .inl (fun _ => 0)))] := hD
  refine lv_aload_n hx hb dX3_init_76 rfl (lv_at hl 0 rfl) ?_
  refine lv_bipush (v := 40) hx hb dX3_init_77 (by decide +kernel) ?_
  refine va_newa (atype := .int) hx hb w3_ (ty := .int) rfl hK hP hD hS hA (n := 40) (N' := 40) (a0 := (40, .inl (fun _ => 0))) (fun cA => zzi cA 40) (by decide +kernel) (by decide +kernel) (by decide +kernel) (by decide +kernel) (by decide +kernel) dX3_init_79 (fun hn10 kn10 H hK hP hD hS => ?_)
  have hP : va_P (dC, dI) vwCl [(h0, .inr (3, [.int 0, .int 0, .int 0, .int 0, .ref hn1, .ref hn2, .ref hn3, .ref hn4, .ref hn5, .ref hn6, .ref hn7, .ref hn8, .ref hn9, .null, .null, .null, .null, .null])), (hn1, .inl (kn1, 6, .inl (fun _ => 0))), (hn2, .inl (kn2, 40, .inl (fun _ => 0))), (hn3, .inl (kn3, 40, .inl (fun _ => 0))), (hn4, .inl (kn4, 40, .inl (fun _ => 0))), (hn5, .inl (kn5, 40, .inr (.inl (fun _ => 0)))), (hn6, .inl (kn6, 40, .inl (fun _ => 0))), (hn7, .inl (kn7, 40, .inl (fun _ => 0))), (hn8, .inl (kn8, 40, .inl (fun _ => 0))), (hn9, .inl (kn9, 40, .inl (fun _ => 0))), (hn10, .inl (kn10, 40, .inl (fun _ => 0)))] H := hP
  have hD : va_D A [(h0, .inr (3, [.int 0, .int 0, .int 0, .int 0, .ref hn1, .ref hn2, .ref hn3, .ref hn4, .ref hn5, .ref hn6, .ref hn7, .ref hn8, .ref hn9, .null, .null, .null, .null, .null])), (hn1, .inl (kn1, 6, .inl (fun _ => 0))), (hn2, .inl (kn2, 40, .inl (fun _ => 0))), (hn3, .inl (kn3, 40, .inl (fun _ => 0))), (hn4, .inl (kn4, 40, .inl (fun _ => 0))), (hn5, .inl (kn5, 40, .inr (.inl (fun _ => 0)))), (hn6, .inl (kn6, 40, .inl (fun _ => 0))), (hn7, .inl (kn7, 40, .inl (fun _ => 0))), (hn8, .inl (kn8, 40, .inl (fun _ => 0))), (hn9, .inl (kn9, 40, .inl (fun _ => 0))), (hn10, .inl (kn10, 40, .inl (fun _ => 0)))] := hD
  have hK : va_K (dC, dI) vwCl [(kn1, .int), (kn2, .int), (kn3, .int), (kn4, .int), (kn5, .long), (kn6, .int), (kn7, .int), (kn8, .int), (kn9, .int), (kn10, .int)] s := hK
  refine W.widen (k := 10) (n := 366) (by decide +kernel) (by decide +kernel) ?_
  refine va_putF (D := (dC, dI)) (ci := 3) (v := .ref hn10) (ty := .array .int) (C := RX3) (T := TX3) (N := 18) hx hb hts inlX3 tyX3 tyX3_ok nmX3 hown hK hP hD hS 0 rfl rfl 13 (by decide) w14_ (fun _ h9 => h9) rfl hin rfl (by decide +kernel) rfl rfl (Nat.le_of_ble_eq_true rfl) dX3_init_81 (fun H locs hP hD hS => ?_)
  have hP : va_P (dC, dI) vwCl [(h0, .inr (3, [.int 0, .int 0, .int 0, .int 0, .ref hn1, .ref hn2, .ref hn3, .ref hn4, .ref hn5, .ref hn6, .ref hn7, .ref hn8, .ref hn9, .ref hn10, .null, .null, .null, .null])), (hn1, .inl (kn1, 6, .inl (fun _ => 0))), (hn2, .inl (kn2, 40, .inl (fun _ => 0))), (hn3, .inl (kn3, 40, .inl (fun _ => 0))), (hn4, .inl (kn4, 40, .inl (fun _ => 0))), (hn5, .inl (kn5, 40, .inr (.inl (fun _ => 0)))), (hn6, .inl (kn6, 40, .inl (fun _ => 0))), (hn7, .inl (kn7, 40, .inl (fun _ => 0))), (hn8, .inl (kn8, 40, .inl (fun _ => 0))), (hn9, .inl (kn9, 40, .inl (fun _ => 0))), (hn10, .inl (kn10, 40, .inl (fun _ => 0)))] H := hP
  have hD : va_D A [(h0, .inr (3, [.int 0, .int 0, .int 0, .int 0, .ref hn1, .ref hn2, .ref hn3, .ref hn4, .ref hn5, .ref hn6, .ref hn7, .ref hn8, .ref hn9, .ref hn10, .null, .null, .null, .null])), (hn1, .inl (kn1, 6, .inl (fun _ => 0))), (hn2, .inl (kn2, 40, .inl (fun _ => 0))), (hn3, .inl (kn3, 40, .inl (fun _ => 0))), (hn4, .inl (kn4, 40, .inl (fun _ => 0))), (hn5, .inl (kn5, 40, .inr (.inl (fun _ => 0)))), (hn6, .inl (kn6, 40, .inl (fun _ => 0))), (hn7, .inl (kn7, 40, .inl (fun _ => 0))), (hn8, .inl (kn8, 40, .inl (fun _ => 0))), (hn9, .inl (kn9, 40, .inl (fun _ => 0))), (hn10, .inl (kn10, 40, .inl (fun _ => 0)))] := hD
  refine lv_aload_n hx hb dX3_init_84 rfl (lv_at hl 0 rfl) ?_
  refine lv_bipush (v := 40) hx hb dX3_init_85 (by decide +kernel) ?_
  refine va_newa (atype := .int) hx hb w3_ (ty := .int) rfl hK hP hD hS hA (n := 40) (N' := 40) (a0 := (40, .inl (fun _ => 0))) (fun cA => zzi cA 40) (by decide +kernel) (by decide +kernel) (by decide +kernel) (by decide +kernel) (by decide +kernel) dX3_init_87 (fun hn11 kn11 H hK hP hD hS => ?_)
  have hP : va_P (dC, dI) vwCl [(h0, .inr (3, [.int 0, .int 0, .int 0, .int 0, .ref hn1, .ref hn2, .ref hn3, .ref hn4, .ref hn5, .ref hn6, .ref hn7, .ref hn8, .ref hn9, .ref hn10, .null, .null, .null, .null])), (hn1, .inl (kn1, 6, .inl (fun _ => 0))), (hn2, .inl (kn2, 40, .inl (fun _ => 0))), (hn3, .inl (kn3, 40, .inl (fun _ => 0))), (hn4, .inl (kn4, 40, .inl (fun _ => 0))), (hn5, .inl (kn5, 40, .inr (.inl (fun _ => 0)))), (hn6, .inl (kn6, 40, .inl (fun _ => 0))), (hn7, .inl (kn7, 40, .inl (fun _ => 0))), (hn8, .inl (kn8, 40, .inl (fun _ => 0))), (hn9, .inl (kn9, 40, .inl (fun _ => 0))), (hn10, .inl (kn10, 40, .inl (fun _ => 0))), (hn11, .inl (kn11, 40, .inl (fun _ => 0)))] H := hP
  have hD : va_D A [(h0, .inr (3, [.int 0, .int 0, .int 0, .int 0, .ref hn1, .ref hn2, .ref hn3, .ref hn4, .ref hn5, .ref hn6, .ref hn7, .ref hn8, .ref hn9, .ref hn10, .null, .null, .null, .null])), (hn1, .inl (kn1, 6, .inl (fun _ => 0))), (hn2, .inl (kn2, 40, .inl (fun _ => 0))), (hn3, .inl (kn3, 40, .inl (fun _ => 0))), (hn4, .inl (kn4, 40, .inl (fun _ => 0))), (hn5, .inl (kn5, 40, .inr (.inl (fun _ => 0)))), (hn6, .inl (kn6, 40, .inl (fun _ => 0))), (hn7, .inl (kn7, 40, .inl (fun _ => 0))), (hn8, .inl (kn8, 40, .inl (fun _ => 0))), (hn9, .inl (kn9, 40, .inl (fun _ => 0))), (hn10, .inl (kn10, 40, .inl (fun _ => 0))), (hn11, .inl (kn11, 40, .inl (fun _ => 0)))] := hD
  have hK : va_K (dC, dI) vwCl [(kn1, .int), (kn2, .int), (kn3, .int), (kn4, .int), (kn5, .long), (kn6, .int), (kn7, .int), (kn8, .int), (kn9, .int), (kn10, .int), (kn11, .int)] s := hK
  refine W.widen (k := 11) (n := 406) (by decide +kernel) (by decide +kernel) ?_
  refine va_putF (D := (dC, dI)) (ci := 3) (v := .ref hn11) (ty := .array .int) (C := RX3) (T := TX3) (N := 18) hx hb hts inlX3 tyX3 tyX3_ok nmX3 hown hK hP hD hS 0 rfl rfl 14 (by decide) w15_ (fun _ h9 => h9) rfl hin rfl (by decide +kernel) rfl rfl (Nat.le_of_ble_eq_true rfl) dX3_init_89 (fun H locs hP hD hS => ?_)
  have hP : va_P (dC, dI) vwCl [(h0, .inr (3, [.int 0, .int 0, .int 0, .int 0, .ref hn1, .ref hn2, .ref hn3, .ref hn4, .ref hn5, .ref hn6, .ref hn7, .ref hn8, .ref hn9, .ref hn10, .ref hn11, .null, .null, .null])), (hn1, .inl (kn1, 6, .inl (fun _ => 0))), (hn2, .inl (kn2, 40, .inl (fun _ => 0))), (hn3, .inl (kn3, 40, .inl (fun _ => 0))), (hn4, .inl (kn4, 40, .inl (fun _ => 0))), (hn5, .inl (kn5, 40, .inr (.inl (fun _ => 0)))), (hn6, .inl (kn6, 40, .inl (fun _ => 0))), (hn7, .inl (kn7, 40, .inl (fun _ => 0))), (hn8, .inl (kn8, 40, .inl (fun _ => 0))), (hn9, .inl (kn9, 40, .inl (fun _ => 0))), (hn10, .inl (kn10, 40, .inl (fun _ => 0))), (hn11, .inl (kn11, 40, .inl (fun _ => 0)))] H := hP
  have hD : va_D A [(h0, .inr (3, [.int 0, .int 0, .int 0, .int 0, .ref hn1, .ref hn2, .ref hn3, .ref hn4, .ref hn5, .ref hn6, .ref hn7, .ref hn8, .ref hn9, .ref hn10, .ref hn11, .null, .null, .null])), (hn1, .inl (kn1, 6, .inl (fun _ => 0))), (hn2, .inl (kn2, 40, .inl (fun _ => 0))), (hn3, .inl (kn3, 40, .inl (fun _ => 0))), (hn4, .inl (kn4, 40, .inl (fun _ => 0))), (hn5, .inl (kn5, 40, .inr (.inl (fun _ => 0)))), (hn6, .inl (kn6, 40, .inl (fun _ => 0))), (hn7, .inl (kn7, 40, .inl (fun _ => 0))), (hn8, .inl (kn8, 40, .inl (fun _ => 0))), (hn9, .inl (kn9, 40, .inl (fun _ => 0))), (hn10, .inl (kn10, 40, .inl (fun _ => 0))), (hn11, .inl (kn11, 40, .inl (fun _ => 0)))] := hD
  refine lv_aload_n hx hb dX3_init_92 rfl (lv_at hl 0 rfl) ?_
  refine lv_bipush (v := 40) hx hb dX3_init_93 (by decide +kernel) ?_
  refine va_newa (atype := .int) hx hb w3_ (ty := .int) rfl hK hP hD hS hA (n := 40) (N' := 40) (a0 := (40, .inl (fun _ => 0))) (fun cA => zzi cA 40) (by decide +kernel) (by decide +kernel) (by decide +kernel) (by decide +kernel) (by decide +kernel) dX3_init_95 (fun hn12 kn12 H hK hP hD hS => ?_)
  have hP : va_P (dC, dI) vwCl [(h0, .inr (3, [.int 0, .int 0, .int 0, .int 0, .ref hn1, .ref hn2, .ref hn3, .ref hn4, .ref hn5, .ref hn6, .ref hn7, .ref hn8, .ref hn9, .ref hn10, .ref hn11, .null, .null, .null])), (hn1, .inl (kn1, 6, .inl (fun _ => 0))), (hn2, .inl (kn2, 40, .inl (fun _ => 0))), (hn3, .inl (kn3, 40, .inl (fun _ => 0))), (hn4, .inl (kn4, 40, .inl (fun _ => 0))), (hn5, .inl (kn5, 40, .inr (.inl (fun _ => 0)))), (hn6, .inl (kn6, 40, .inl (fun _ => 0))), (hn7, .inl (kn7, 40, .inl (fun _ => 0))), (hn8, .inl (kn8, 40, .inl (fun _ => 0))), (hn9, .inl (kn9, 40, .inl (fun _ => 0))), (hn10, .inl (kn10, 40, .inl (fun _ => 0))), (hn11, .inl (kn11, 40, .inl (fun _ => 0))), (hn12, .inl (kn12, 40, .inl (fun _ => 0)))] H := hP
  have hD : va_D A [(h0, .inr (3, [.int 0, .int 0, .int 0, .int 0, .ref hn1, .ref hn2, .ref hn3, .ref hn4, .ref hn5, .ref hn6, .ref hn7, .ref hn8, .ref hn9, .ref hn10, .ref hn11, .null, .null, .null])), (hn1, .inl (kn1, 6, .inl (fun _ => 0))), (hn2, .inl (kn2, 40, .inl (fun _ => 0))), (hn3, .inl (kn3, 40, .inl (fun _ => 0))), (hn4, .inl (kn4, 40, .inl (fun _ => 0))), (hn5, .inl (kn5, 40, .inr (.inl (fun _ => 0)))), (hn6, .inl (kn6, 40, .inl (fun _ => 0))), (hn7, .inl (kn7, 40, .inl (fun _ => 0))), (hn8, .inl (kn8, 40, .inl (fun _ => 0))), (hn9, .inl (kn9, 40, .inl (fun _ => 0))), (hn10, .inl (kn10, 40, .inl (fun _ => 0))), (hn11, .inl (kn11, 40, .inl (fun _ => 0))), (hn12, .inl (kn12, 40, .inl (fun _ => 0)))] := hD
  have hK : va_K (dC, dI) vwCl [(kn1, .int), (kn2, .int), (kn3, .int), (kn4, .int), (kn5, .long), (kn6, .int), (kn7, .int), (kn8, .int), (kn9, .int), (kn10, .int), (kn11, .int), (kn12, .int)] s := hK
  refine W.widen (k := 12) (n := 446) (by decide +kernel) (by decide +kernel) ?_
  refine va_putF (D := (dC, dI)) (ci := 3) (v := .ref hn12) (ty := .array .int) (C := RX3) (T := TX3) (N := 18) hx hb hts inlX3 tyX3 tyX3_ok nmX3 hown hK hP hD hS 0 rfl rfl 15 (by decide) w16_ (fun _ h9 => h9) rfl hin rfl (by decide +kernel) rfl rfl (Nat.le_of_ble_eq_true rfl) dX3_init_97 (fun H locs hP hD hS => ?_)
  have hP : va_P (dC, dI) vwCl [(h0, .inr (3, [.int 0, .int 0, .int 0, .int 0, .ref hn1, .ref hn2, .ref hn3, .ref hn4, .ref hn5, .ref hn6, .ref hn7, .ref hn8, .ref hn9, .ref hn10, .ref hn11, .ref hn12, .null, .null])), (hn1, .inl (kn1, 6, .inl (fun _ => 0))), (hn2, .inl (kn2, 40, .inl (fun _ => 0))), (hn3, .inl (kn3, 40, .inl (fun _ => 0))), (hn4, .inl (kn4, 40, .inl (fun _ => 0))), (hn5, .inl (kn5, 40, .inr (.inl (fun _ => 0)))), (hn6, .inl (kn6, 40, .inl (fun _ => 0))), (hn7, .inl (kn7, 40, .inl (fun _ => 0))), (hn8, .inl (kn8, 40, .inl (fun _ => 0))), (hn9, .inl (kn9, 40, .inl (fun _ => 0))), (hn10, .inl (kn10, 40, .inl (fun _ => 0))), (hn11, .inl (kn11, 40, .inl (fun _ => 0))), (hn12, .inl (kn12, 40, .inl (fun _ => 0)))] H := hP
  have hD : va_D A [(h0, .inr (3, [.int 0, .int 0, .int 0, .int 0, .ref hn1, .ref hn2, .ref hn3, .ref hn4, .ref hn5, .ref hn6, .ref hn7, .ref hn8, .ref hn9, .ref hn10, .ref hn11, .ref hn12, .null, .null])), (hn1, .inl (kn1, 6, .inl (fun _ => 0))), (hn2, .inl (kn2, 40, .inl (fun _ => 0))), (hn3, .inl (kn3, 40, .inl (fun _ => 0))), (hn4, .inl (kn4, 40, .inl (fun _ => 0))), (hn5, .inl (kn5, 40, .inr (.inl (fun _ => 0)))), (hn6, .inl (kn6, 40, .inl (fun _ => 0))), (hn7, .inl (kn7, 40, .inl (fun _ => 0))), (hn8, .inl (kn8, 40, .inl (fun _ => 0))), (hn9, .inl (kn9, 40, .inl (fun _ => 0))), (hn10, .inl (kn10, 40, .inl (fun _ => 0))), (hn11, .inl (kn11, 40, .inl (fun _ => 0))), (hn12, .inl (kn12, 40, .inl (fun _ => 0)))] := hD
  refine lv_aload_n hx hb dX3_init_100 rfl (lv_at hl 0 rfl) ?_
  refine lv_bipush (v := 40) hx hb dX3_init_101 (by decide +kernel) ?_
  refine va_newa (atype := .int) hx hb w3_ (ty := .int) rfl hK hP hD hS hA (n := 40) (N' := 40) (a0 := (40, .inl (fun _ => 0))) (fun cA => zzi cA 40) (by decide +kernel) (by decide +kernel) (by decide +kernel) (by decide +kernel) (by decide +kernel) dX3_init_103 (fun hn13 kn13 H hK hP hD hS => ?_)
  have hP : va_P (dC, dI) vwCl [(h0, .inr (3, [.int 0, .int 0, .int 0, .int 0, .ref hn1, .ref hn2, .ref hn3, .ref hn4, .ref hn5, .ref hn6, .ref hn7, .ref hn8, .ref hn9, .ref hn10, .ref hn11, .ref hn12, .null, .null])), (hn1, .inl (kn1, 6, .inl (fun _ => 0))), (hn2, .inl (kn2, 40, .inl (fun _ => 0))), (hn3, .inl (kn3, 40, .inl (fun _ => 0))), (hn4, .inl (kn4, 40, .inl (fun _ => 0))), (hn5, .inl (kn5, 40, .inr (.inl (fun _ => 0)))), (hn6, .inl (kn6, 40, .inl (fun _ => 0))), (hn7, .inl (kn7, 40, .inl (fun _ => 0))), (hn8, .inl (kn8, 40, .inl (fun _ => 0))), (hn9, .inl (kn9, 40, .inl (fun _ => 0))), (hn10, .inl (kn10, 40, .inl (fun _ => 0))), (hn11, .inl (kn11, 40, .inl (fun _ => 0))), (hn12, .inl (kn12, 40, .inl (fun _ => 0))), (hn13, .inl (kn13, 40, .inl (fun _ => 0)))] H := hP
  have hD : va_D A [(h0, .inr (3, [.int 0, .int 0, .int 0, .int 0, .ref hn1, .ref hn2, .ref hn3, .ref hn4, .ref hn5, .ref hn6, .ref hn7, .ref hn8, .ref hn9, .ref hn10, .ref hn11, .ref hn12, .null, .null])), (hn1, .inl (kn1, 6, .inl (fun _ => 0))), (hn2, .inl (kn2, 40, .inl (fun _ => 0))), (hn3, .inl (kn3, 40, .inl (fun _ => 0))), (hn4, .inl (kn4, 40, .inl (fun _ => 0))), (hn5, .inl (kn5, 40, .inr (.inl (fun _ => 0)))), (hn6, .inl (kn6, 40, .inl (fun _ => 0))), (hn7, .inl (kn7, 40, .inl (fun _ => 0))), (hn8, .inl (kn8, 40, .inl (fun _ => 0))), (hn9, .inl (kn9, 40, .inl (fun _ => 0))), (hn10, .inl (kn10, 40, .inl (fun _ => 0))), (hn11, .inl (kn11, 40, .inl (fun _ => 0))), (hn12, .inl (kn12, 40, .inl (fun _ => 0))), (hn13, .inl (kn13, 40, .inl (fun _ => 0)))] := hD
  have hK : va_K (dC, dI) vwCl [(kn1, .int), (kn2, .int), (kn3, .int), (kn4, .int), (kn5, .long), (kn6, .int), (kn7, .int), (kn8, .int), (kn9, .int), (kn10, .int), (kn11, .int), (kn12, .int), (kn13, .int)] s := hK
  refine W.widen (k := 13) (n := 486) (by decide +kernel) (by decide +kernel) ?_
  refine va_putF (D := (dC, dI)) (ci := 3) (v := .ref hn13) (ty := .array .int) (C := RX3) (T := TX3) (N := 18) hx hb hts inlX3 tyX3 tyX3_ok nmX3 hown hK hP hD hS 0 rfl rfl 16 (by decide) w17_ (fun _ h9 => h9) rfl hin rfl (by decide +kernel) rfl rfl (Nat.le_of_ble_eq_true rfl) dX3_init_105 (fun H locs hP hD hS => ?_)
  have hP : va_P (dC, dI) vwCl [(h0, .inr (3, [.int 0, .int 0, .int 0, .int 0, .ref hn1, .ref hn2, .ref hn3, .ref hn4, .ref hn5, .ref hn6, .ref hn7, .ref hn8, .ref hn9, .ref hn10, .ref hn11, .ref hn12, .ref hn13, .null])), (hn1, .inl (kn1, 6, .inl (fun _ => 0))), (hn2, .inl (kn2, 40, .inl (fun _ => 0))), (hn3, .inl (kn3, 40, .inl (fun _ => 0))), (hn4, .inl (kn4, 40, .inl (fun _ => 0))), (hn5, .inl (kn5, 40, .inr (.inl (fun _ => 0)))), (hn6, .inl (kn6, 40, .inl (fun _ => 0))), (hn7, .inl (kn7, 40, .inl (fun _ => 0))), (hn8, .inl (kn8, 40, .inl (fun _ => 0))), (hn9, .inl (kn9, 40, .inl (fun _ => 0))), (hn10, .inl (kn10, 40, .inl (fun _ => 0))), (hn11, .inl (kn11, 40, .inl (fun _ => 0))), (hn12, .inl (kn12, 40, .inl (fun _ => 0))), (hn13, .inl (kn13, 40, .inl (fun _ => 0)))] H := hP
  have hD : va_D A [(h0, .inr (3, [.int 0, .int 0, .int 0, .int 0, .ref hn1, .ref hn2, .ref hn3, .ref hn4, .ref hn5, .ref hn6, .ref hn7, .ref hn8, .ref hn9, .ref hn10, .ref hn11, .ref hn12, .ref hn13, .null])), (hn1, .inl (kn1, 6, .inl (fun _ => 0))), (hn2, .inl (kn2, 40, .inl (fun _ => 0))), (hn3, .inl (kn3, 40, .inl (fun _ => 0))), (hn4, .inl (kn4, 40, .inl (fun _ => 0))), (hn5, .inl (kn5, 40, .inr (.inl (fun _ => 0)))), (hn6, .inl (kn6, 40, .inl (fun _ => 0))), (hn7, .inl (kn7, 40, .inl (fun _ => 0))), (hn8, .inl (kn8, 40, .inl (fun _ => 0))), (hn9, .inl (kn9, 40, .inl (fun _ => 0))), (hn10, .inl (kn10, 40, .inl (fun _ => 0))), (hn11, .inl (kn11, 40, .inl (fun _ => 0))), (hn12, .inl (kn12, 40, .inl (fun _ => 0))), (hn13, .inl (kn13, 40, .inl (fun _ => 0)))] := hD
  refine lv_aload_n hx hb dX3_init_108 rfl (lv_at hl 0 rfl) ?_
  refine lv_bipush (v := 40) hx hb dX3_init_109 (by decide +kernel) ?_
  refine va_newa (atype := .int) hx hb w3_ (ty := .int) rfl hK hP hD hS hA (n := 40) (N' := 40) (a0 := (40, .inl (fun _ => 0))) (fun cA => zzi cA 40) (by decide +kernel) (by decide +kernel) (by decide +kernel) (by decide +kernel) (by decide +kernel) dX3_init_111 (fun hn14 kn14 H hK hP hD hS => ?_)
  have hP : va_P (dC, dI) vwCl [(h0, .inr (3, [.int 0, .int 0, .int 0, .int 0, .ref hn1, .ref hn2, .ref hn3, .ref hn4, .ref hn5, .ref hn6, .ref hn7, .ref hn8, .ref hn9, .ref hn10, .ref hn11, .ref hn12, .ref hn13, .null])), (hn1, .inl (kn1, 6, .inl (fun _ => 0))), (hn2, .inl (kn2, 40, .inl (fun _ => 0))), (hn3, .inl (kn3, 40, .inl (fun _ => 0))), (hn4, .inl (kn4, 40, .inl (fun _ => 0))), (hn5, .inl (kn5, 40, .inr (.inl (fun _ => 0)))), (hn6, .inl (kn6, 40, .inl (fun _ => 0))), (hn7, .inl (kn7, 40, .inl (fun _ => 0))), (hn8, .inl (kn8, 40, .inl (fun _ => 0))), (hn9, .inl (kn9, 40, .inl (fun _ => 0))), (hn10, .inl (kn10, 40, .inl (fun _ => 0))), (hn11, .inl (kn11, 40, .inl (fun _ => 0))), (hn12, .inl (kn12, 40, .inl (fun _ => 0))), (hn13, .inl (kn13, 40, .inl (fun _ => 0))), (hn14, .inl (kn14, 40, .inl (fun _ => 0)))] H := hP
  have hD : va_D A [(h0, .inr (3, [.int 0, .int 0, .int 0, .int 0, .ref hn1, .ref hn2, .ref hn3, .ref hn4, .ref hn5, .ref hn6, .ref hn7, .ref hn8, .ref hn9, .ref hn10, .ref hn11, .ref hn12, .ref hn13, .null])), (hn1, .inl (kn1, 6, .inl (fun _ => 0))), (hn2, .inl (kn2, 40, .inl (fun _ => 0))), (hn3, .inl (kn3, 40, .inl (fun _ => 0))), (hn4, .inl (kn4, 40, .inl (fun _ => 0))), (hn5, .inl (kn5, 40, .inr (.inl (fun _ => 0)))), (hn6, .inl (kn6, 40, .inl (fun _ => 0))), (hn7, .inl (kn7, 40, .inl (fun _ => 0))), (hn8, .inl (kn8, 40, .inl (fun _ => 0))), (hn9, .inl (kn9, 40, .inl (fun _ => 0))), (hn10, .inl (kn10, 40, .inl (fun _ => 0))), (hn11, .inl (kn11, 40, .inl (fun _ => 0))), (hn12, .inl (kn12, 40, .inl (fun _ => 0))), (hn13, .inl (kn13, 40, .inl (fun _ => 0))), (hn14, .inl (kn14, 40, .inl (fun _ => 0)))] := hD
  have hK : va_K (dC, dI) vwCl [(kn1, .int), (kn2, .int), (kn3, .int), (kn4, .int), (kn5, .long), (kn6, .int), (kn7, .int), (kn8, .int), (kn9, .int), (kn10, .int), (kn11, .int), (kn12, .int), (kn13, .int), (kn14, .int)] s := hK
  refine W.widen (k := 14) (n := 526) (by decide +kernel) (by decide +kernel) ?_
  refine va_putF (D := (dC, dI)) (ci := 3) (v := .ref hn14) (ty := .array .int) (C := RX3) (T := TX3) (N := 18) hx hb hts inlX3 tyX3 tyX3_ok nmX3 hown hK hP hD hS 0 rfl rfl 17 (by decide) w18_ (fun _ h9 => h9) rfl hin rfl (by decide +kernel) rfl rfl (Nat.le_of_ble_eq_true rfl) dX3_init_113 (fun H locs hP hD hS => ?_)
  have hP : va_P (dC, dI) vwCl [(h0, .inr (3, [.int 0, .int 0, .int 0, .int 0, .ref hn1, .ref hn2, .ref hn3, .ref hn4, .ref hn5, .ref hn6, .ref hn7, .ref hn8, .ref hn9, .ref hn10, .ref hn11, .ref hn12, .ref hn13, .ref hn14])), (hn1, .inl (kn1, 6, .inl (fun _ => 0))), (hn2, .inl (kn2, 40, .inl (fun _ => 0))), (hn3, .inl (kn3, 40, .inl (fun _ => 0))), (hn4, .inl (kn4, 40, .inl (fun _ => 0))), (hn5, .inl (kn5, 40, .inr (.inl (fun _ => 0)))), (hn6, .inl (kn6, 40, .inl (fun _ => 0))), (hn7, .inl (kn7, 40, .inl (fun _ => 0))), (hn8, .inl (kn8, 40, .inl (fun _ => 0))), (hn9, .inl (kn9, 40, .inl (fun _ => 0))), (hn10, .inl (kn10, 40, .inl (fun _ => 0))), (hn11, .inl (kn11, 40, .inl (fun _ => 0))), (hn12, .inl (kn12, 40, .inl (fun _ => 0))), (hn13, .inl (kn13, 40, .inl (fun _ => 0))), (hn14, .inl (kn14, 40, .inl (fun _ => 0)))] H := hP
  have hD : va_D A [(h0, .inr (3, [.int 0, .int 0, .int 0, .int 0, .ref hn1, .ref hn2, .ref hn3, .ref hn4, .ref hn5, .ref hn6, .ref hn7, .ref hn8, .ref hn9, .ref hn10, .ref hn11, .ref hn12, .ref hn13, .ref hn14])), (hn1, .inl (kn1, 6, .inl (fun _ => 0))), (hn2, .inl (kn2, 40, .inl (fun _ => 0))), (hn3, .inl (kn3, 40, .inl (fun _ => 0))), (hn4, .inl (kn4, 40, .inl (fun _ => 0))), (hn5, .inl (kn5, 40, .inr (.inl (fun _ => 0)))), (hn6, .inl (kn6, 40, .inl (fun _ => 0))), (hn7, .inl (kn7, 40, .inl (fun _ => 0))), (hn8, .inl (kn8, 40, .inl (fun _ => 0))), (hn9, .inl (kn9, 40, .inl (fun _ => 0))), (hn10, .inl (kn10, 40, .inl (fun _ => 0))), (hn11, .inl (kn11, 40, .inl (fun _ => 0))), (hn12, .inl (kn12, 40, .inl (fun _ => 0))), (hn13, .inl (kn13, 40, .inl (fun _ => 0))), (hn14, .inl (kn14, 40, .inl (fun _ => 0)))] := hD
  have hP9 := hP.sub (ws' := [(h0, .inr (3, [.int 0, .int 0, .int 0, .int 0, .ref hn1, .ref hn2, .ref hn3, .ref hn4, .ref hn5, .ref hn6, .ref hn7, .ref hn8, .ref hn9, .ref hn10, .ref hn11, .ref hn12, .ref hn13, .ref hn14])), (hn1, .inl (kn1, 6, .inl (fun _ => 0))), (hn2, .inl (kn2, 40, .inl (fun _ => 0))), (hn3, .inl (kn3, 40, .inl (fun _ => 0))), (hn4, .inl (kn4, 40, .inl (fun _ => 0))), (hn5, .inl (kn5, 40, .inr (.inl (fun _ => 0)))), (hn6, .inl (kn6, 40, .inl (fun _ => 0))), (hn7, .inl (kn7, 40, .inl (fun _ => 0))), (hn8, .inl (kn8, 40, .inl (fun _ => 0))), (hn9, .inl (kn9, 40, .inl (fun _ => 0))), (hn10, .inl (kn10, 40, .inl (fun _ => 0))), (hn11, .inl (kn11, 40, .inl (fun _ => 0))), (hn12, .inl (kn12, 40, .inl (fun _ => 0))), (hn13, .inl (kn13, 40, .inl (fun _ => 0))), (hn14, .inl (kn14, 40, .inl (fun _ => 0)))]) [0, 1, 2, 3, 4, 5, 6, 7, 8, 9, 10, 11, 12, 13, 14] rfl
  have hD9 := hD.sub (ws' := [(h0, .inr (3, [.int 0, .int 0, .int 0, .int 0, .ref hn1, .ref hn2, .ref hn3, .ref hn4, .ref hn5, .ref hn6, .ref hn7, .ref hn8, .ref hn9, .ref hn10, .ref hn11, .ref hn12, .ref hn13, .ref hn14])), (hn1, .inl (kn1, 6, .inl (fun _ => 0))), (hn2, .inl (kn2, 40, .inl (fun _ => 0))), (hn3, .inl (kn3, 40, .inl (fun _ => 0))), (hn4, .inl (kn4, 40, .inl (fun _ => 0))), (hn5, .inl (kn5, 40, .inr (.inl (fun _ => 0)))), (hn6, .inl (kn6, 40, .inl (fun _ => 0))), (hn7, .inl (kn7, 40, .inl (fun _ => 0))), (hn8, .inl (kn8, 40, .inl (fun _ => 0))), (hn9, .inl (kn9, 40, .inl (fun _ => 0))), (hn10, .inl (kn10, 40, .inl (fun _ => 0))), (hn11, .inl (kn11, 40, .inl (fun _ => 0))), (hn12, .inl (kn12, 40, .inl (fun _ => 0))), (hn13, .inl (kn13, 40, .inl (fun _ => 0))), (hn14, .inl (kn14, 40, .inl (fun _ => 0)))]) [0, 1, 2, 3, 4, 5, 6, 7, 8, 9, 10, 11, 12, 13, 14] (by decide) rfl
  exact W.vret hx hb hr (fun t ht hW => ⟨⟨([hn1, hn2, hn3, hn4, hn5, hn6, hn7, hn8, hn9, hn10, hn11, hn12, hn13, hn14], [kn1, kn2, kn3, kn4, kn5, kn6, kn7, kn8, kn9, kn10, kn11, kn12, kn13, kn14]), rfl, trivial, by rw [ht]; exact hP9, va_K.moved hW.alike hK, hD9⟩, hS.F ht⟩) hS.2.2 dX3_init_116
set_option maxHeartbeats 4000000 in
set_option maxRecDepth 100000 in
theorem mX2_init (l : Launch) (dC : Nat → ClassId) (dI : Nat → Nat → Nat) (h0 : Nat) (g0 : Nat) (g1 : Nat) (sz : Nat) (base : Nat × Nat × Nat) : Met l yX2_init (.code yX2_init cX2_init 3 none :: wsL_law) ({ frames := 1, cells := 4, slots := 91, locals := 20 }) (cPre (dC, dI) vwCl [.ref h0, .ref g0, .ref g1] sz base [(h0, .inr (2, [.null, .null, .null, .int 0, .null, .null, .null]))] []) (va_Qv (fun _ => True) (fun (u : List Nat × List ClassId) t => va_P (dC, dI) vwCl [(h0, .inr (2, [.ref g0, .ref g1, .ref (u.1.getD 0 0), .int 0, .ref (u.1.getD 1 0), .ref (u.1.getD 2 0), .ref (u.1.getD 3 0)])), ((u.1.getD 0 0), .inl ((u.2.getD 0 0), 5, .inr (.inl (fun _ => 0)))), ((u.1.getD 1 0), .inl ((u.2.getD 1 0), 6, .inr (.inl (fun _ => 0)))), ((u.1.getD 2 0), .inl ((u.2.getD 2 0), 40, .inr (.inl (fun _ => 0)))), ((u.1.getD 3 0), .inl ((u.2.getD 3 0), 40, .inl (fun _ => 0)))] t.heap ∧ va_K (dC, dI) vwCl [((u.2.getD 0 0), .long), ((u.2.getD 1 0), .long), ((u.2.getD 2 0), .long), ((u.2.getD 3 0), .int)] t ∧ va_D (va_A [(h0, .inr (2, [.null, .null, .null, .int 0, .null, .null, .null]))] sz) [(h0, .inr (2, [.ref g0, .ref g1, .ref (u.1.getD 0 0), .int 0, .ref (u.1.getD 1 0), .ref (u.1.getD 2 0), .ref (u.1.getD 3 0)])), ((u.1.getD 0 0), .inl ((u.2.getD 0 0), 5, .inr (.inl (fun _ => 0)))), ((u.1.getD 1 0), .inl ((u.2.getD 1 0), 6, .inr (.inl (fun _ => 0)))), ((u.1.getD 2 0), .inl ((u.2.getD 2 0), 40, .inr (.inl (fun _ => 0)))), ((u.1.getD 3 0), .inl ((u.2.getD 3 0), 40, .inl (fun _ => 0)))]) (va_A [(h0, .inr (2, [.null, .null, .null, .int 0, .null, .null, .null]))] sz)) 4 91 (va_A [(h0, .inr (2, [.null, .null, .null, .int 0, .null, .null, .null]))] sz) := by
  refine Met.ofW (cc := cX2_init) (maxL := 3) (ret := none) (by decide) rfl ?_
  intro p e s m args below meth c s₁ B hml hv
  obtain ⟨rfl, hsz, hP, hK, hD0, hE⟩ := hv
  have hx := B.exec
  have hb := B.bytes
  have hr := B.returns
  have hts : ∀ w ∈ wsL_law, _ := fun w h => atoms_spec (ws := .code yX2_init cX2_init 3 none :: wsL_law) B.pre w (List.mem_cons_of_mem _ h)
  have hown : s.vm.findClass RX2 = some m.cls := findClass_of_methodNamed B.named
  have hlocks := B.notSynchronized
  have hin : meth.name = "<init>" := (name_of_methodNamed B.named B.method).1
  have w0_ := hts _ q67
  have w1_ := hts _ q11
  have w2_ := hts _ q12
  have w3_ := hts _ q53
  have w4_ := hts _ q68
  have w5_ := hts _ q69
  have w6_ := hts _ q70
  have w7_ := hts _ q32
  have w8_ := hts _ q71
  have w9_ := hts _ q72
  have w10_ := hts _ q73
  subst hsz
  have hD := hD0.self (sz := s.heap.size)
  generalize hAe : va_A [(h0, .inr (2, [.null, .null, .null, .int 0, .null, .null, .null]))] s.heap.size = A at hD ⊢
  have hA : ∀ q : Nat, s.heap.size ≤ q → A q := fun q h => by rw [← hAe]; exact Or.inr h
  have hAB : ∀ q : Nat, A q → base.1 ≤ q := fun q h => by rw [← hAe] at h; exact h.elim (fun ⟨k, e, hk⟩ => hD0.2 k _ hk) (fun hk => Nat.le_trans hE.1 hk)
  have hS : va_S A s.heap s.heap [] := va_S.rf
  have hl := lv_entry ([.ref h0, .ref g0, .ref g1]) (n := 3) (Nat.le_of_ble_eq_true rfl)
  rw [lg_entry_eq]
  generalize (lg_sl ([.ref h0, .ref g0, .ref g1]) ++ List.replicate (3 - (lg_sl ([.ref h0, .ref g0, .ref g1])).length) Slot.unset).toArray = ls at hl ⊢
  have hl : lv_has ls 3 [(0, .ref h0), (1, .ref g0), (2, .ref g1)] := hl
  have hP : va_P (dC, dI) vwCl [(h0, .inr (2, [.null, .null, .null, .int 0, .null, .null, .null]))] s.heap := hP
  have hK : va_K (dC, dI) vwCl [] s := hK
  obtain ⟨H, hH⟩ : ∃ H, H = s.heap := ⟨_, rfl⟩
  have hS : va_S A s.heap H [] := by rw [hH]; exact hS
  rw [← hH] at hP ⊢
  generalize ([] : List Loc) = locs at hS ⊢
  refine lv_aload_n hx hb dX2_init_0 rfl (lv_at hl 0 rfl) ?_
  refine W.objInit hx hb hown w0_ w1_ w2_ rfl (by rw [hml]; exact hl.1) rfl dX2_init_1 (Nat.le_of_ble_eq_true rfl) (Nat.le_of_ble_eq_true rfl) ?_
  refine W.eq (g2 := F0 m 4 ls []) rfl ?_
  refine lv_aload_n hx hb dX2_init_4 rfl (lv_at hl 0 rfl) ?_
  refine lv_iconst (v := 5) hx hb dX2_init_5 (by decide +kernel) ?_
  refine va_newa (atype := .long) hx hb w3_ (ty := .long) rfl hK hP hD hS hA (n := 5) (N' := 5) (a0 := (5, .inr (.inl (fun _ => 0)))) (fun cA => zzl cA 5) (by decide +kernel) (by decide +kernel) (by decide +kernel) (by decide +kernel) (by decide +kernel) dX2_init_6 (fun hn1 kn1 H hK hP hD hS => ?_)
  have hP : va_P (dC, dI) vwCl [(h0, .inr (2, [.null, .null, .null, .int 0, .null, .null, .null])), (hn1, .inl (kn1, 5, .inr (.inl (fun _ => 0))))] H := hP
  have hD : va_D A [(h0, .inr (2, [.null, .null, .null, .int 0, .null, .null, .null])), (hn1, .inl (kn1, 5, .inr (.inl (fun _ => 0))))] := hD
  have hK : va_K (dC, dI) vwCl [(kn1, .long)] s := hK
  refine W.widen (k := 1) (n := 5) (by decide +kernel) (by decide +kernel) ?_
  refine va_putF (D := (dC, dI)) (ci := 2) (v := .ref hn1) (ty := .array .long) (C := RX2) (T := TX2) (N := 7) hx hb hts inlX2 tyX2 tyX2_ok nmX2 hown hK hP hD hS 0 rfl rfl 2 (by decide) w4_ (fun _ h9 => h9) rfl hin rfl (by decide +kernel) rfl rfl (Nat.le_of_ble_eq_true rfl) dX2_init_8 (fun H locs hP hD hS => ?_)
  have hP : va_P (dC, dI) vwCl [(h0, .inr (2, [.null, .null, .ref hn1, .int 0, .null, .null, .null])), (hn1, .inl (kn1, 5, .inr (.inl (fun _ => 0))))] H := hP
  have hD : va_D A [(h0, .inr (2, [.null, .null, .ref hn1, .int 0, .null, .null, .null])), (hn1, .inl (kn1, 5, .inr (.inl (fun _ => 0))))] := hD
  refine lv_aload_n hx hb dX2_init_11 rfl (lv_at hl 0 rfl) ?_
  refine lv_bipush (v := 6) hx hb dX2_init_12 (by decide +kernel) ?_
  refine va_newa (atype := .long) hx hb w3_ (ty := .long) rfl hK hP hD hS hA (n := 6) (N' := 6) (a0 := (6, .inr (.inl (fun _ => 0)))) (fun cA => zzl cA 6) (by decide +kernel) (by decide +kernel) (by decide +kernel) (by decide +kernel) (by decide +kernel) dX2_init_14 (fun hn2 kn2 H hK hP hD hS => ?_)
  have hP : va_P (dC, dI) vwCl [(h0, .inr (2, [.null, .null, .ref hn1, .int 0, .null, .null, .null])), (hn1, .inl (kn1, 5, .inr (.inl (fun _ => 0)))), (hn2, .inl (kn2, 6, .inr (.inl (fun _ => 0))))] H := hP
  have hD : va_D A [(h0, .inr (2, [.null, .null, .ref hn1, .int 0, .null, .null, .null])), (hn1, .inl (kn1, 5, .inr (.inl (fun _ => 0)))), (hn2, .inl (kn2, 6, .inr (.inl (fun _ => 0))))] := hD
  have hK : va_K (dC, dI) vwCl [(kn1, .long), (kn2, .long)] s := hK
  refine W.widen (k := 2) (n := 11) (by decide +kernel) (by decide +kernel) ?_
  refine va_putF (D := (dC, dI)) (ci := 2) (v := .ref hn2) (ty := .array .long) (C := RX2) (T := TX2) (N := 7) hx hb hts inlX2 tyX2 tyX2_ok nmX2 hown hK hP hD hS 0 rfl rfl 4 (by decide) w5_ (fun _ h9 => h9) rfl hin rfl (by decide +kernel) rfl rfl (Nat.le_of_ble_eq_true rfl) dX2_init_16 (fun H locs hP hD hS => ?_)
  have hP : va_P (dC, dI) vwCl [(h0, .inr (2, [.null, .null, .ref hn1, .int 0, .ref hn2, .null, .null])), (hn1, .inl (kn1, 5, .inr (.inl (fun _ => 0)))), (hn2, .inl (kn2, 6, .inr (.inl (fun _ => 0))))] H := hP
  have hD : va_D A [(h0, .inr (2, [.null, .null, .ref hn1, .int 0, .ref hn2, .null, .null])), (hn1, .inl (kn1, 5, .inr (.inl (fun _ => 0)))), (hn2, .inl (kn2, 6, .inr (.inl (fun _ => 0))))] := hD
  refine lv_aload_n hx hb dX2_init_19 rfl (lv_at hl 0 rfl) ?_
  refine lv_bipush (v := 40) hx hb dX2_init_20 (by decide +kernel) ?_
  refine va_newa (atype := .long) hx hb w3_ (ty := .long) rfl hK hP hD hS hA (n := 40) (N' := 40) (a0 := (40, .inr (.inl (fun _ => 0)))) (fun cA => zzl cA 40) (by decide +kernel) (by decide +kernel) (by decide +kernel) (by decide +kernel) (by decide +kernel) dX2_init_22 (fun hn3 kn3 H hK hP hD hS => ?_)
  have hP : va_P (dC, dI) vwCl [(h0, .inr (2, [.null, .null, .ref hn1, .int 0, .ref hn2, .null, .null])), (hn1, .inl (kn1, 5, .inr (.inl (fun _ => 0)))), (hn2, .inl (kn2, 6, .inr (.inl (fun _ => 0)))), (hn3, .inl (kn3, 40, .inr (.inl (fun _ => 0))))] H := hP
  have hD : va_D A [(h0, .inr (2, [.null, .null, .ref hn1, .int 0, .ref hn2, .null, .null])), (hn1, .inl (kn1, 5, .inr (.inl (fun _ => 0)))), (hn2, .inl (kn2, 6, .inr (.inl (fun _ => 0)))), (hn3, .inl (kn3, 40, .inr (.inl (fun _ => 0))))] := hD
  have hK : va_K (dC, dI) vwCl [(kn1, .long), (kn2, .long), (kn3, .long)] s := hK
  refine W.widen (k := 3) (n := 51) (by decide +kernel) (by decide +kernel) ?_
  refine va_putF (D := (dC, dI)) (ci := 2) (v := .ref hn3) (ty := .array .long) (C := RX2) (T := TX2) (N := 7) hx hb hts inlX2 tyX2 tyX2_ok nmX2 hown hK hP hD hS 0 rfl rfl 5 (by decide) w6_ (fun _ h9 => h9) rfl hin rfl (by decide +kernel) rfl rfl (Nat.le_of_ble_eq_true rfl) dX2_init_24 (fun H locs hP hD hS => ?_)
  have hP : va_P (dC, dI) vwCl [(h0, .inr (2, [.null, .null, .ref hn1, .int 0, .ref hn2, .ref hn3, .null])), (hn1, .inl (kn1, 5, .inr (.inl (fun _ => 0)))), (hn2, .inl (kn2, 6, .inr (.inl (fun _ => 0)))), (hn3, .inl (kn3, 40, .inr (.inl (fun _ => 0))))] H := hP
  have hD : va_D A [(h0, .inr (2, [.null, .null, .ref hn1, .int 0, .ref hn2, .ref hn3, .null])), (hn1, .inl (kn1, 5, .inr (.inl (fun _ => 0)))), (hn2, .inl (kn2, 6, .inr (.inl (fun _ => 0)))), (hn3, .inl (kn3, 40, .inr (.inl (fun _ => 0))))] := hD
  refine lv_aload_n hx hb dX2_init_27 rfl (lv_at hl 0 rfl) ?_
  refine lv_bipush (v := 40) hx hb dX2_init_28 (by decide +kernel) ?_
  refine va_newa (atype := .int) hx hb w7_ (ty := .int) rfl hK hP hD hS hA (n := 40) (N' := 40) (a0 := (40, .inl (fun _ => 0))) (fun cA => zzi cA 40) (by decide +kernel) (by decide +kernel) (by decide +kernel) (by decide +kernel) (by decide +kernel) dX2_init_30 (fun hn4 kn4 H hK hP hD hS => ?_)
  have hP : va_P (dC, dI) vwCl [(h0, .inr (2, [.null, .null, .ref hn1, .int 0, .ref hn2, .ref hn3, .null])), (hn1, .inl (kn1, 5, .inr (.inl (fun _ => 0)))), (hn2, .inl (kn2, 6, .inr (.inl (fun _ => 0)))), (hn3, .inl (kn3, 40, .inr (.inl (fun _ => 0)))), (hn4, .inl (kn4, 40, .inl (fun _ => 0)))] H := hP
  have hD : va_D A [(h0, .inr (2, [.null, .null, .ref hn1, .int 0, .ref hn2, .ref hn3, .null])), (hn1, .inl (kn1, 5, .inr (.inl (fun _ => 0)))), (hn2, .inl (kn2, 6, .inr (.inl (fun _ => 0)))), (hn3, .inl (kn3, 40, .inr (.inl (fun _ => 0)))), (hn4, .inl (kn4, 40, .inl (fun _ => 0)))] := hD
  have hK : va_K (dC, dI) vwCl [(kn1, .long), (kn2, .long), (kn3, .long), (kn4, .int)] s := hK
  refine W.widen (k := 4) (n := 91) (by decide +kernel) (by decide +kernel) ?_
  refine va_putF (D := (dC, dI)) (ci := 2) (v := .ref hn4) (ty := .array .int) (C := RX2) (T := TX2) (N := 7) hx hb hts inlX2 tyX2 tyX2_ok nmX2 hown hK hP hD hS 0 rfl rfl 6 (by decide) w8_ (fun _ h9 => h9) rfl hin rfl (by decide +kernel) rfl rfl (Nat.le_of_ble_eq_true rfl) dX2_init_32 (fun H locs hP hD hS => ?_)
  have hP : va_P (dC, dI) vwCl [(h0, .inr (2, [.null, .null, .ref hn1, .int 0, .ref hn2, .ref hn3, .ref hn4])), (hn1, .inl (kn1, 5, .inr (.inl (fun _ => 0)))), (hn2, .inl (kn2, 6, .inr (.inl (fun _ => 0)))), (hn3, .inl (kn3, 40, .inr (.inl (fun _ => 0)))), (hn4, .inl (kn4, 40, .inl (fun _ => 0)))] H := hP
  have hD : va_D A [(h0, .inr (2, [.null, .null, .ref hn1, .int 0, .ref hn2, .ref hn3, .ref hn4])), (hn1, .inl (kn1, 5, .inr (.inl (fun _ => 0)))), (hn2, .inl (kn2, 6, .inr (.inl (fun _ => 0)))), (hn3, .inl (kn3, 40, .inr (.inl (fun _ => 0)))), (hn4, .inl (kn4, 40, .inl (fun _ => 0)))] := hD
  refine lv_aload_n hx hb dX2_init_35 rfl (lv_at hl 0 rfl) ?_
  refine lv_aload_n hx hb dX2_init_36 rfl (lv_at hl 1 rfl) ?_
  refine va_putF (D := (dC, dI)) (ci := 2) (v := .ref g0) (ty := .object "StackPrograms$Scanner") (C := RX2) (T := TX2) (N := 7) hx hb hts inlX2 tyX2 tyX2_ok nmX2 hown hK hP hD hS 0 rfl rfl 0 (by decide) w9_ (fun _ h9 => h9) rfl hin rfl (by decide +kernel) rfl rfl (Nat.le_of_ble_eq_true rfl) dX2_init_37 (fun H locs hP hD hS => ?_)
  have hP : va_P (dC, dI) vwCl [(h0, .inr (2, [.ref g0, .null, .ref hn1, .int 0, .ref hn2, .ref hn3, .ref hn4])), (hn1, .inl (kn1, 5, .inr (.inl (fun _ => 0)))), (hn2, .inl (kn2, 6, .inr (.inl (fun _ => 0)))), (hn3, .inl (kn3, 40, .inr (.inl (fun _ => 0)))), (hn4, .inl (kn4, 40, .inl (fun _ => 0)))] H := hP
  have hD : va_D A [(h0, .inr (2, [.ref g0, .null, .ref hn1, .int 0, .ref hn2, .ref hn3, .ref hn4])), (hn1, .inl (kn1, 5, .inr (.inl (fun _ => 0)))), (hn2, .inl (kn2, 6, .inr (.inl (fun _ => 0)))), (hn3, .inl (kn3, 40, .inr (.inl (fun _ => 0)))), (hn4, .inl (kn4, 40, .inl (fun _ => 0)))] := hD
  refine lv_aload_n hx hb dX2_init_40 rfl (lv_at hl 0 rfl) ?_
  refine lv_aload_n hx hb dX2_init_41 rfl (lv_at hl 2 rfl) ?_
  refine va_putF (D := (dC, dI)) (ci := 2) (v := .ref g1) (ty := .object "StackPrograms$Program") (C := RX2) (T := TX2) (N := 7) hx hb hts inlX2 tyX2 tyX2_ok nmX2 hown hK hP hD hS 0 rfl rfl 1 (by decide) w10_ (fun _ h9 => h9) rfl hin rfl (by decide +kernel) rfl rfl (Nat.le_of_ble_eq_true rfl) dX2_init_42 (fun H locs hP hD hS => ?_)
  have hP : va_P (dC, dI) vwCl [(h0, .inr (2, [.ref g0, .ref g1, .ref hn1, .int 0, .ref hn2, .ref hn3, .ref hn4])), (hn1, .inl (kn1, 5, .inr (.inl (fun _ => 0)))), (hn2, .inl (kn2, 6, .inr (.inl (fun _ => 0)))), (hn3, .inl (kn3, 40, .inr (.inl (fun _ => 0)))), (hn4, .inl (kn4, 40, .inl (fun _ => 0)))] H := hP
  have hD : va_D A [(h0, .inr (2, [.ref g0, .ref g1, .ref hn1, .int 0, .ref hn2, .ref hn3, .ref hn4])), (hn1, .inl (kn1, 5, .inr (.inl (fun _ => 0)))), (hn2, .inl (kn2, 6, .inr (.inl (fun _ => 0)))), (hn3, .inl (kn3, 40, .inr (.inl (fun _ => 0)))), (hn4, .inl (kn4, 40, .inl (fun _ => 0)))] := hD
  have hP9 := hP.sub (ws' := [(h0, .inr (2, [.ref g0, .ref g1, .ref hn1, .int 0, .ref hn2, .ref hn3, .ref hn4])), (hn1, .inl (kn1, 5, .inr (.inl (fun _ => 0)))), (hn2, .inl (kn2, 6, .inr (.inl (fun _ => 0)))), (hn3, .inl (kn3, 40, .inr (.inl (fun _ => 0)))), (hn4, .inl (kn4, 40, .inl (fun _ => 0)))]) [0, 1, 2, 3, 4] rfl
  have hD9 := hD.sub (ws' := [(h0, .inr (2, [.ref g0, .ref g1, .ref hn1, .int 0, .ref hn2, .ref hn3, .ref hn4])), (hn1, .inl (kn1, 5, .inr (.inl (fun _ => 0)))), (hn2, .inl (kn2, 6, .inr (.inl (fun _ => 0)))), (hn3, .inl (kn3, 40, .inr (.inl (fun _ => 0)))), (hn4, .inl (kn4, 40, .inl (fun _ => 0)))]) [0, 1, 2, 3, 4] (by decide) rfl
  exact W.vret hx hb hr (fun t ht hW => ⟨⟨([hn1, hn2, hn3, hn4], [kn1, kn2, kn3, kn4]), rfl, trivial, by rw [ht]; exact hP9, va_K.moved hW.alike hK, hD9⟩, hS.F ht⟩) hS.2.2 dX2_init_45
set_option maxHeartbeats 4000000 in
set_option maxRecDepth 100000 in
theorem mX1_init (l : Launch) (dC : Nat → ClassId) (dI : Nat → Nat → Nat) (h0 : Nat) (g0 : Nat) (sz : Nat) (base : Nat × Nat × Nat) : Met l yX1_init (.code yX1_init cX1_init 2 none :: wsL_law) ({ frames := 1, cells := 1, slots := 3072, locals := 20 }) (cPre (dC, dI) vwCl [.ref h0, .ref g0] sz base [(h0, .inr (1, [.null, .null, .int 0]))] []) (va_Qv (fun _ => True) (fun (u : List Nat × List ClassId) t => va_P (dC, dI) vwCl [(h0, .inr (1, [.ref (u.1.getD 0 0), .ref g0, .int (-1)])), ((u.1.getD 0 0), .inl ((u.2.getD 0 0), 3072, .inl (fun _ => 0)))] t.heap ∧ va_K (dC, dI) vwCl [((u.2.getD 0 0), .int)] t ∧ va_D (va_A [(h0, .inr (1, [.null, .null, .int 0]))] sz) [(h0, .inr (1, [.ref (u.1.getD 0 0), .ref g0, .int (-1)])), ((u.1.getD 0 0), .inl ((u.2.getD 0 0), 3072, .inl (fun _ => 0)))]) (va_A [(h0, .inr (1, [.null, .null, .int 0]))] sz)) 1 3072 (va_A [(h0, .inr (1, [.null, .null, .int 0]))] sz) := by
  refine Met.ofW (cc := cX1_init) (maxL := 2) (ret := none) (by decide) rfl ?_
  intro p e s m args below meth c s₁ B hml hv
  obtain ⟨rfl, hsz, hP, hK, hD0, hE⟩ := hv
  have hx := B.exec
  have hb := B.bytes
  have hr := B.returns
  have hts : ∀ w ∈ wsL_law, _ := fun w h => atoms_spec (ws := .code yX1_init cX1_init 2 none :: wsL_law) B.pre w (List.mem_cons_of_mem _ h)
  have hown : s.vm.findClass RX1 = some m.cls := findClass_of_methodNamed B.named
  have hlocks := B.notSynchronized
  have hin : meth.name = "<init>" := (name_of_methodNamed B.named B.method).1
  have w0_ := hts _ q269
  have w1_ := hts _ q11
  have w2_ := hts _ q12
  have w3_ := hts _ q32
  have w4_ := hts _ q270
  have w5_ := hts _ q271
  have w6_ := hts _ q272
  subst hsz
  have hD := hD0.self (sz := s.heap.size)
  generalize hAe : va_A [(h0, .inr (1, [.null, .null, .int 0]))] s.heap.size = A at hD ⊢
  have hA : ∀ q : Nat, s.heap.size ≤ q → A q := fun q h => by rw [← hAe]; exact Or.inr h
  have hAB : ∀ q : Nat, A q → base.1 ≤ q := fun q h => by rw [← hAe] at h; exact h.elim (fun ⟨k, e, hk⟩ => hD0.2 k _ hk) (fun hk => Nat.le_trans hE.1 hk)
  have hS : va_S A s.heap s.heap [] := va_S.rf
  have hl := lv_entry ([.ref h0, .ref g0]) (n := 2) (Nat.le_of_ble_eq_true rfl)
  rw [lg_entry_eq]
  generalize (lg_sl ([.ref h0, .ref g0]) ++ List.replicate (2 - (lg_sl ([.ref h0, .ref g0])).length) Slot.unset).toArray = ls at hl ⊢
  have hl : lv_has ls 2 [(0, .ref h0), (1, .ref g0)] := hl
  have hP : va_P (dC, dI) vwCl [(h0, .inr (1, [.null, .null, .int 0]))] s.heap := hP
  have hK : va_K (dC, dI) vwCl [] s := hK
  obtain ⟨H, hH⟩ : ∃ H, H = s.heap := ⟨_, rfl⟩
  have hS : va_S A s.heap H [] := by rw [hH]; exact hS
  rw [← hH] at hP ⊢
  generalize ([] : List Loc) = locs at hS ⊢
  refine lv_aload_n hx hb dX1_init_0 rfl (lv_at hl 0 rfl) ?_
  refine W.objInit hx hb hown w0_ w1_ w2_ rfl (by rw [hml]; exact hl.1) rfl dX1_init_1 (Nat.le_of_ble_eq_true rfl) (Nat.le_of_ble_eq_true rfl) ?_
  refine W.eq (g2 := F0 m 4 ls []) rfl ?_
  refine lv_aload_n hx hb dX1_init_4 rfl (lv_at hl 0 rfl) ?_
  refine lv_sipush (v := 3072) hx hb dX1_init_5 (by decide +kernel) ?_
  refine va_newa (atype := .int) hx hb w3_ (ty := .int) rfl hK hP hD hS hA (n := 3072) (N' := 3072) (a0 := (3072, .inl (fun _ => 0))) (fun cA => zzi cA 3072) (by decide +kernel) (by decide +kernel) (by decide +kernel) (by decide +kernel) (by decide +kernel) dX1_init_8 (fun hn1 kn1 H hK hP hD hS => ?_)
  have hP : va_P (dC, dI) vwCl [(h0, .inr (1, [.null, .null, .int 0])), (hn1, .inl (kn1, 3072, .inl (fun _ => 0)))] H := hP
  have hD : va_D A [(h0, .inr (1, [.null, .null, .int 0])), (hn1, .inl (kn1, 3072, .inl (fun _ => 0)))] := hD
  have hK : va_K (dC, dI) vwCl [(kn1, .int)] s := hK
  refine W.widen (k := 1) (n := 3072) (by decide +kernel) (by decide +kernel) ?_
  refine va_putF (D := (dC, dI)) (ci := 1) (v := .ref hn1) (ty := .array .int) (C := RX1) (T := TX1) (N := 3) hx hb hts inlX1 tyX1 tyX1_ok nmX1 hown hK hP hD hS 0 rfl rfl 0 (by decide) w4_ (fun _ h9 => h9) rfl hin rfl (by decide +kernel) rfl rfl (Nat.le_of_ble_eq_true rfl) dX1_init_10 (fun H locs hP hD hS => ?_)
  have hP : va_P (dC, dI) vwCl [(h0, .inr (1, [.ref hn1, .null, .int 0])), (hn1, .inl (kn1, 3072, .inl (fun _ => 0)))] H := hP
  have hD : va_D A [(h0, .inr (1, [.ref hn1, .null, .int 0])), (hn1, .inl (kn1, 3072, .inl (fun _ => 0)))] := hD
  refine lv_aload_n hx hb dX1_init_13 rfl (lv_at hl 0 rfl) ?_
  refine lv_iconst (v := (-1)) hx hb dX1_init_14 (by decide +kernel) ?_
  refine va_put (D := (dC, dI)) (ci := 1) (v := .int (-1)) (ty := .int) (C := RX1) (T := TX1) (N := 3) hx hb hts inlX1 tyX1 tyX1_ok nmX1 hown hK hP hD hS 0 rfl rfl 2 (by decide) w5_ (fun _ h9 => h9) rfl (by decide +kernel) rfl rfl (Nat.le_of_ble_eq_true rfl) dX1_init_15 (fun H locs hP hD hS => ?_)
  have hP : va_P (dC, dI) vwCl [(h0, .inr (1, [.ref hn1, .null, .int (-1)])), (hn1, .inl (kn1, 3072, .inl (fun _ => 0)))] H := hP
  have hD : va_D A [(h0, .inr (1, [.ref hn1, .null, .int (-1)])), (hn1, .inl (kn1, 3072, .inl (fun _ => 0)))] := hD
  refine lv_aload_n hx hb dX1_init_18 rfl (lv_at hl 0 rfl) ?_
  refine lv_aload_n hx hb dX1_init_19 rfl (lv_at hl 1 rfl) ?_
  refine va_putF (D := (dC, dI)) (ci := 1) (v := .ref g0) (ty := .object "StackPrograms$StackSystem") (C := RX1) (T := TX1) (N := 3) hx hb hts inlX1 tyX1 tyX1_ok nmX1 hown hK hP hD hS 0 rfl rfl 1 (by decide) w6_ (fun _ h9 => h9) rfl hin rfl (by decide +kernel) rfl rfl (Nat.le_of_ble_eq_true rfl) dX1_init_20 (fun H locs hP hD hS => ?_)
  have hP : va_P (dC, dI) vwCl [(h0, .inr (1, [.ref hn1, .ref g0, .int (-1)])), (hn1, .inl (kn1, 3072, .inl (fun _ => 0)))] H := hP
  have hD : va_D A [(h0, .inr (1, [.ref hn1, .ref g0, .int (-1)])), (hn1, .inl (kn1, 3072, .inl (fun _ => 0)))] := hD
  have hP9 := hP.sub (ws' := [(h0, .inr (1, [.ref hn1, .ref g0, .int (-1)])), (hn1, .inl (kn1, 3072, .inl (fun _ => 0)))]) [0, 1] rfl
  have hD9 := hD.sub (ws' := [(h0, .inr (1, [.ref hn1, .ref g0, .int (-1)])), (hn1, .inl (kn1, 3072, .inl (fun _ => 0)))]) [0, 1] (by decide) rfl
  exact W.vret hx hb hr (fun t ht hW => ⟨⟨([hn1], [kn1]), rfl, trivial, by rw [ht]; exact hP9, va_K.moved hW.alike hK, hD9⟩, hS.F ht⟩) hS.2.2 dX1_init_23
set_option maxHeartbeats 4000000 in
set_option maxRecDepth 100000 in
theorem mX7_init_30 (l : Launch) (dC : Nat → ClassId) (dI : Nat → Nat → Nat) (h0 : Nat) (g0 : Nat) (sz : Nat) (base : Nat × Nat × Nat) : Met l yX7_init (.code yX7_init cX7_init 3 none :: wsL_law) ({ frames := 1, cells := 2, slots := 526, locals := 21 }) (cPre (dC, dI) vwCl [.ref h0, .ref g0, .int 30] sz base [(h0, .inr (7, [.null, .int 0, .null, .null, .int 0]))] []) (va_Qv (fun _ => True) (fun (u : List Nat × List ClassId) t => va_P (dC, dI) vwCl [(h0, .inr (7, [.ref g0, .int 30, .ref (u.1.getD 0 0), .ref (u.1.getD 1 0), .int 0])), ((u.1.getD 0 0), .inl ((u.2.getD 0 0), 30, .inl (fun _ => 0))), ((u.1.getD 1 0), .inl ((u.2.getD 1 0), 496, .inl (fun _ => 0)))] t.heap ∧ va_K (dC, dI) vwCl [((u.2.getD 0 0), .int), ((u.2.getD 1 0), .int)] t ∧ va_D (va_A [(h0, .inr (7, [.null, .int 0, .null, .null, .int 0]))] sz) [(h0, .inr (7, [.ref g0, .int 30, .ref (u.1.getD 0 0), .ref (u.1.getD 1 0), .int 0])), ((u.1.getD 0 0), .inl ((u.2.getD 0 0), 30, .inl (fun _ => 0))), ((u.1.getD 1 0), .inl ((u.2.getD 1 0), 496, .inl (fun _ => 0)))]) (va_A [(h0, .inr (7, [.null, .int 0, .null, .null, .int 0]))] sz)) 2 526 (va_A [(h0, .inr (7, [.null, .int 0, .null, .null, .int 0]))] sz) := by
  refine Met.ofW (cc := cX7_init) (maxL := 3) (ret := none) (by decide) rfl ?_
  intro p e s m args below meth c s₁ B hml hv
  obtain ⟨rfl, hsz, hP, hK, hD0, hE⟩ := hv
  have hx := B.exec
  have hb := B.bytes
  have hr := B.returns
  have hts : ∀ w ∈ wsL_law, _ := fun w h => atoms_spec (ws := .code yX7_init cX7_init 3 none :: wsL_law) B.pre w (List.mem_cons_of_mem _ h)
  have hown : s.vm.findClass RX7 = some m.cls := findClass_of_methodNamed B.named
  have hlocks := B.notSynchronized
  have hin : meth.name = "<init>" := (name_of_methodNamed B.named B.method).1
  have w0_ := hts _ q276
  have w1_ := hts _ q11
  have w2_ := hts _ q12
  have w3_ := hts _ q277
  have w4_ := hts _ q278
  have w5_ := hts _ q279
  have w6_ := hts _ q280
  have w7_ := hts _ q281
  have w8_ := hts _ q282
  have w9_ := hts _ q32
  have w10_ := hts _ q283
  have w11_ := hts _ q284
  subst hsz
  have hD := hD0.self (sz := s.heap.size)
  generalize hAe : va_A [(h0, .inr (7, [.null, .int 0, .null, .null, .int 0]))] s.heap.size = A at hD ⊢
  have hA : ∀ q : Nat, s.heap.size ≤ q → A q := fun q h => by rw [← hAe]; exact Or.inr h
  have hAB : ∀ q : Nat, A q → base.1 ≤ q := fun q h => by rw [← hAe] at h; exact h.elim (fun ⟨k, e, hk⟩ => hD0.2 k _ hk) (fun hk => Nat.le_trans hE.1 hk)
  have hS : va_S A s.heap s.heap [] := va_S.rf
  have hl := lv_entry ([.ref h0, .ref g0, .int 30]) (n := 3) (Nat.le_of_ble_eq_true rfl)
  rw [lg_entry_eq]
  generalize (lg_sl ([.ref h0, .ref g0, .int 30]) ++ List.replicate (3 - (lg_sl ([.ref h0, .ref g0, .int 30])).length) Slot.unset).toArray = ls at hl ⊢
  have hl : lv_has ls 3 [(0, .ref h0), (1, .ref g0), (2, .int 30)] := hl
  have hP : va_P (dC, dI) vwCl [(h0, .inr (7, [.null, .int 0, .null, .null, .int 0]))] s.heap := hP
  have hK : va_K (dC, dI) vwCl [] s := hK
  obtain ⟨H, hH⟩ : ∃ H, H = s.heap := ⟨_, rfl⟩
  have hS : va_S A s.heap H [] := by rw [hH]; exact hS
  rw [← hH] at hP ⊢
  generalize ([] : List Loc) = locs at hS ⊢
  refine lv_aload_n hx hb dX7_init_0 rfl (lv_at hl 0 rfl) ?_
  refine W.objInit hx hb hown w0_ w1_ w2_ rfl (by rw [hml]; exact hl.1) rfl dX7_init_1 (Nat.le_of_ble_eq_true rfl) (Nat.le_of_ble_eq_true rfl) ?_
  refine W.eq (g2 := F0 m 4 ls []) rfl ?_
  refine lv_aload_n hx hb dX7_init_4 rfl (lv_at hl 0 rfl) ?_
  refine lv_aload_n hx hb dX7_init_5 rfl (lv_at hl 1 rfl) ?_
  refine va_putF (D := (dC, dI)) (ci := 7) (v := .ref g0) (ty := .object "StackPrograms$Distances") (C := RX7) (T := TX7) (N := 5) hx hb hts inlX7 tyX7 tyX7_ok nmX7 hown hK hP hD hS 0 rfl rfl 0 (by decide) w3_ (fun _ h9 => h9) rfl hin rfl (by decide +kernel) rfl rfl (Nat.le_of_ble_eq_true rfl) dX7_init_6 (fun H locs hP hD hS => ?_)
  have hP : va_P (dC, dI) vwCl [(h0, .inr (7, [.ref g0, .int 0, .null, .null, .int 0]))] H := hP
  have hD : va_D A [(h0, .inr (7, [.ref g0, .int 0, .null, .null, .int 0]))] := hD
  refine lv_aload_n hx hb dX7_init_9 rfl (lv_at hl 0 rfl) ?_
  refine lv_iload_n hx hb dX7_init_10 rfl (lv_at hl 2 rfl) ?_
  refine lv_iconst (v := 0) hx hb dX7_init_11 (by decide +kernel) ?_
  refine va_mmax hx hb (by rw [hml]; exact hl.1.symm) hown w4_ w5_ w6_ w7_ (Nat.le_of_ble_eq_true rfl) (Nat.le_of_ble_eq_true rfl) (by decide +kernel) (by decide +kernel) dX7_init_12 ?_
  refine lv_topi (fun x1 e1 => ?_)
  obtain rfl : x1 = 30 := by rw [e1]; decide
  refine va_putF (D := (dC, dI)) (ci := 7) (v := .int 30) (ty := .int) (C := RX7) (T := TX7) (N := 5) hx hb hts inlX7 tyX7 tyX7_ok nmX7 hown hK hP hD hS 0 rfl rfl 1 (by decide) w8_ (fun _ h9 => h9) rfl hin rfl (by decide +kernel) rfl rfl (Nat.le_of_ble_eq_true rfl) dX7_init_15 (fun H locs hP hD hS => ?_)
  have hP : va_P (dC, dI) vwCl [(h0, .inr (7, [.ref g0, .int 30, .null, .null, .int 0]))] H := hP
  have hD : va_D A [(h0, .inr (7, [.ref g0, .int 30, .null, .null, .int 0]))] := hD
  refine lv_aload_n hx hb dX7_init_18 rfl (lv_at hl 0 rfl) ?_
  refine lv_aload_n hx hb dX7_init_19 rfl (lv_at hl 0 rfl) ?_
  refine va_get (D := (dC, dI)) (ci := 7) (v := .int 30) (C := RX7) (T := TX7) (N := 5) hx hb hts inlX7 hown hK hP 0 rfl rfl 1 (by decide) w8_ (fun _ h9 => h9) rfl dX7_init_20 ?_
  refine va_newa (atype := .int) hx hb w9_ (ty := .int) rfl hK hP hD hS hA (n := 30) (N' := 30) (a0 := (30, .inl (fun _ => 0))) (fun cA => zzi cA 30) (by decide +kernel) (by decide +kernel) (by decide +kernel) (by decide +kernel) (by decide +kernel) dX7_init_23 (fun hn2 kn2 H hK hP hD hS => ?_)
  have hP : va_P (dC, dI) vwCl [(h0, .inr (7, [.ref g0, .int 30, .null, .null, .int 0])), (hn2, .inl (kn2, 30, .inl (fun _ => 0)))] H := hP
  have hD : va_D A [(h0, .inr (7, [.ref g0, .int 30, .null, .null, .int 0])), (hn2, .inl (kn2, 30, .inl (fun _ => 0)))] := hD
  have hK : va_K (dC, dI) vwCl [(kn2, .int)] s := hK
  refine W.widen (k := 1) (n := 30) (by decide +kernel) (by decide +kernel) ?_
  refine va_putF (D := (dC, dI)) (ci := 7) (v := .ref hn2) (ty := .array .int) (C := RX7) (T := TX7) (N := 5) hx hb hts inlX7 tyX7 tyX7_ok nmX7 hown hK hP hD hS 0 rfl rfl 2 (by decide) w10_ (fun _ h9 => h9) rfl hin rfl (by decide +kernel) rfl rfl (Nat.le_of_ble_eq_true rfl) dX7_init_25 (fun H locs hP hD hS => ?_)
  have hP : va_P (dC, dI) vwCl [(h0, .inr (7, [.ref g0, .int 30, .ref hn2, .null, .int 0])), (hn2, .inl (kn2, 30, .inl (fun _ => 0)))] H := hP
  have hD : va_D A [(h0, .inr (7, [.ref g0, .int 30, .ref hn2, .null, .int 0])), (hn2, .inl (kn2, 30, .inl (fun _ => 0)))] := hD
  refine lv_aload_n hx hb dX7_init_28 rfl (lv_at hl 0 rfl) ?_
  refine lv_aload_n hx hb dX7_init_29 rfl (lv_at hl 0 rfl) ?_
  refine va_get (D := (dC, dI)) (ci := 7) (v := .int 30) (C := RX7) (T := TX7) (N := 5) hx hb hts inlX7 hown hK hP 0 rfl rfl 1 (by decide) w8_ (fun _ h9 => h9) rfl dX7_init_30 ?_
  refine lv_iconst (v := 1) hx hb dX7_init_33 (by decide +kernel) ?_
  refine lv_iadd hx hb dX7_init_34 ?_
  refine lv_topi (fun x3 e3 => ?_)
  obtain rfl : x3 = 31 := by rw [e3]; decide
  refine lv_bipush (v := 16) hx hb dX7_init_35 (by decide +kernel) ?_
  refine lv_imul hx hb dX7_init_37 ?_
  refine lv_topi (fun x4 e4 => ?_)
  obtain rfl : x4 = 496 := by rw [e4]; decide
  refine va_newa (atype := .int) hx hb w9_ (ty := .int) rfl hK hP hD hS hA (n := 496) (N' := 496) (a0 := (496, .inl (fun _ => 0))) (fun cA => zzi cA 496) (by decide +kernel) (by decide +kernel) (by decide +kernel) (by decide +kernel) (by decide +kernel) dX7_init_38 (fun hn5 kn5 H hK hP hD hS => ?_)
  have hP : va_P (dC, dI) vwCl [(h0, .inr (7, [.ref g0, .int 30, .ref hn2, .null, .int 0])), (hn2, .inl (kn2, 30, .inl (fun _ => 0))), (hn5, .inl (kn5, 496, .inl (fun _ => 0)))] H := hP
  have hD : va_D A [(h0, .inr (7, [.ref g0, .int 30, .ref hn2, .null, .int 0])), (hn2, .inl (kn2, 30, .inl (fun _ => 0))), (hn5, .inl (kn5, 496, .inl (fun _ => 0)))] := hD
  have hK : va_K (dC, dI) vwCl [(kn2, .int), (kn5, .int)] s := hK
  refine W.widen (k := 2) (n := 526) (by decide +kernel) (by decide +kernel) ?_
  refine va_putF (D := (dC, dI)) (ci := 7) (v := .ref hn5) (ty := .array .int) (C := RX7) (T := TX7) (N := 5) hx hb hts inlX7 tyX7 tyX7_ok nmX7 hown hK hP hD hS 0 rfl rfl 3 (by decide) w11_ (fun _ h9 => h9) rfl hin rfl (by decide +kernel) rfl rfl (Nat.le_of_ble_eq_true rfl) dX7_init_40 (fun H locs hP hD hS => ?_)
  have hP : va_P (dC, dI) vwCl [(h0, .inr (7, [.ref g0, .int 30, .ref hn2, .ref hn5, .int 0])), (hn2, .inl (kn2, 30, .inl (fun _ => 0))), (hn5, .inl (kn5, 496, .inl (fun _ => 0)))] H := hP
  have hD : va_D A [(h0, .inr (7, [.ref g0, .int 30, .ref hn2, .ref hn5, .int 0])), (hn2, .inl (kn2, 30, .inl (fun _ => 0))), (hn5, .inl (kn5, 496, .inl (fun _ => 0)))] := hD
  have hP9 := hP.sub (ws' := [(h0, .inr (7, [.ref g0, .int 30, .ref hn2, .ref hn5, .int 0])), (hn2, .inl (kn2, 30, .inl (fun _ => 0))), (hn5, .inl (kn5, 496, .inl (fun _ => 0)))]) [0, 1, 2] rfl
  have hD9 := hD.sub (ws' := [(h0, .inr (7, [.ref g0, .int 30, .ref hn2, .ref hn5, .int 0])), (hn2, .inl (kn2, 30, .inl (fun _ => 0))), (hn5, .inl (kn5, 496, .inl (fun _ => 0)))]) [0, 1, 2] (by decide) rfl
  exact W.vret hx hb hr (fun t ht hW => ⟨⟨([hn2, hn5], [kn2, kn5]), rfl, trivial, by rw [ht]; exact hP9, va_K.moved hW.alike hK, hD9⟩, hS.F ht⟩) hS.2.2 dX7_init_43
set_option maxHeartbeats 4000000 in
set_option maxRecDepth 100000 in
theorem mX7_init_2030 (l : Launch) (dC : Nat → ClassId) (dI : Nat → Nat → Nat) (h0 : Nat) (g0 : Nat) (sz : Nat) (base : Nat × Nat × Nat) : Met l yX7_init (.code yX7_init cX7_init 3 none :: wsL_law) ({ frames := 1, cells := 2, slots := 34526, locals := 21 }) (cPre (dC, dI) vwCl [.ref h0, .ref g0, .int 2030] sz base [(h0, .inr (7, [.null, .int 0, .null, .null, .int 0]))] []) (va_Qv (fun _ => True) (fun (u : List Nat × List ClassId) t => va_P (dC, dI) vwCl [(h0, .inr (7, [.ref g0, .int 2030, .ref (u.1.getD 0 0), .ref (u.1.getD 1 0), .int 0])), ((u.1.getD 0 0), .inl ((u.2.getD 0 0), 2030, .inl (fun _ => 0))), ((u.1.getD 1 0), .inl ((u.2.getD 1 0), 32496, .inl (fun _ => 0)))] t.heap ∧ va_K (dC, dI) vwCl [((u.2.getD 0 0), .int), ((u.2.getD 1 0), .int)] t ∧ va_D (va_A [(h0, .inr (7, [.null, .int 0, .null, .null, .int 0]))] sz) [(h0, .inr (7, [.ref g0, .int 2030, .ref (u.1.getD 0 0), .ref (u.1.getD 1 0), .int 0])), ((u.1.getD 0 0), .inl ((u.2.getD 0 0), 2030, .inl (fun _ => 0))), ((u.1.getD 1 0), .inl ((u.2.getD 1 0), 32496, .inl (fun _ => 0)))]) (va_A [(h0, .inr (7, [.null, .int 0, .null, .null, .int 0]))] sz)) 2 34526 (va_A [(h0, .inr (7, [.null, .int 0, .null, .null, .int 0]))] sz) := by
  refine Met.ofW (cc := cX7_init) (maxL := 3) (ret := none) (by decide) rfl ?_
  intro p e s m args below meth c s₁ B hml hv
  obtain ⟨rfl, hsz, hP, hK, hD0, hE⟩ := hv
  have hx := B.exec
  have hb := B.bytes
  have hr := B.returns
  have hts : ∀ w ∈ wsL_law, _ := fun w h => atoms_spec (ws := .code yX7_init cX7_init 3 none :: wsL_law) B.pre w (List.mem_cons_of_mem _ h)
  have hown : s.vm.findClass RX7 = some m.cls := findClass_of_methodNamed B.named
  have hlocks := B.notSynchronized
  have hin : meth.name = "<init>" := (name_of_methodNamed B.named B.method).1
  have w0_ := hts _ q276
  have w1_ := hts _ q11
  have w2_ := hts _ q12
  have w3_ := hts _ q277
  have w4_ := hts _ q278
  have w5_ := hts _ q279
  have w6_ := hts _ q280
  have w7_ := hts _ q281
  have w8_ := hts _ q282
  have w9_ := hts _ q32
  have w10_ := hts _ q283
  have w11_ := hts _ q284
  subst hsz
  have hD := hD0.self (sz := s.heap.size)
  generalize hAe : va_A [(h0, .inr (7, [.null, .int 0, .null, .null, .int 0]))] s.heap.size = A at hD ⊢
  have hA : ∀ q : Nat, s.heap.size ≤ q → A q := fun q h => by rw [← hAe]; exact Or.inr h
  have hAB : ∀ q : Nat, A q → base.1 ≤ q := fun q h => by rw [← hAe] at h; exact h.elim (fun ⟨k, e, hk⟩ => hD0.2 k _ hk) (fun hk => Nat.le_trans hE.1 hk)
  have hS : va_S A s.heap s.heap [] := va_S.rf
  have hl := lv_entry ([.ref h0, .ref g0, .int 2030]) (n := 3) (Nat.le_of_ble_eq_true rfl)
  rw [lg_entry_eq]
  generalize (lg_sl ([.ref h0, .ref g0, .int 2030]) ++ List.replicate (3 - (lg_sl ([.ref h0, .ref g0, .int 2030])).length) Slot.unset).toArray = ls at hl ⊢
  have hl : lv_has ls 3 [(0, .ref h0), (1, .ref g0), (2, .int 2030)] := hl
  have hP : va_P (dC, dI) vwCl [(h0, .inr (7, [.null, .int 0, .null, .null, .int 0]))] s.heap := hP
  have hK : va_K (dC, dI) vwCl [] s := hK
  obtain ⟨H, hH⟩ : ∃ H, H = s.heap := ⟨_, rfl⟩
  have hS : va_S A s.heap H [] := by rw [hH]; exact hS
  rw [← hH] at hP ⊢
  generalize ([] : List Loc) = locs at hS ⊢
  refine lv_aload_n hx hb dX7_init_0 rfl (lv_at hl 0 rfl) ?_
  refine W.objInit hx hb hown w0_ w1_ w2_ rfl (by rw [hml]; exact hl.1) rfl dX7_init_1 (Nat.le_of_ble_eq_true rfl) (Nat.le_of_ble_eq_true rfl) ?_
  refine W.eq (g2 := F0 m 4 ls []) rfl ?_
  refine lv_aload_n hx hb dX7_init_4 rfl (lv_at hl 0 rfl) ?_
  refine lv_aload_n hx hb dX7_init_5 rfl (lv_at hl 1 rfl) ?_
  refine va_putF (D := (dC, dI)) (ci := 7) (v := .ref g0) (ty := .object "StackPrograms$Distances") (C := RX7) (T := TX7) (N := 5) hx hb hts inlX7 tyX7 tyX7_ok nmX7 hown hK hP hD hS 0 rfl rfl 0 (by decide) w3_ (fun _ h9 => h9) rfl hin rfl (by decide +kernel) rfl rfl (Nat.le_of_ble_eq_true rfl) dX7_init_6 (fun H locs hP hD hS => ?_)
  have hP : va_P (dC, dI) vwCl [(h0, .inr (7, [.ref g0, .int 0, .null, .null, .int 0]))] H := hP
  have hD : va_D A [(h0, .inr (7, [.ref g0, .int 0, .null, .null, .int 0]))] := hD
  refine lv_aload_n hx hb dX7_init_9 rfl (lv_at hl 0 rfl) ?_
  refine lv_iload_n hx hb dX7_init_10 rfl (lv_at hl 2 rfl) ?_
  refine lv_iconst (v := 0) hx hb dX7_init_11 (by decide +kernel) ?_
  refine va_mmax hx hb (by rw [hml]; exact hl.1.symm) hown w4_ w5_ w6_ w7_ (Nat.le_of_ble_eq_true rfl) (Nat.le_of_ble_eq_true rfl) (by decide +kernel) (by decide +kernel) dX7_init_12 ?_
  refine lv_topi (fun x1 e1 => ?_)
  obtain rfl : x1 = 2030 := by rw [e1]; decide
  refine va_putF (D := (dC, dI)) (ci := 7) (v := .int 2030) (ty := .int) (C := RX7) (T := TX7) (N := 5) hx hb hts inlX7 tyX7 tyX7_ok nmX7 hown hK hP hD hS 0 rfl rfl 1 (by decide) w8_ (fun _ h9 => h9) rfl hin rfl (by decide +kernel) rfl rfl (Nat.le_of_ble_eq_true rfl) dX7_init_15 (fun H locs hP hD hS => ?_)
  have hP : va_P (dC, dI) vwCl [(h0, .inr (7, [.ref g0, .int 2030, .null, .null, .int 0]))] H := hP
  have hD : va_D A [(h0, .inr (7, [.ref g0, .int 2030, .null, .null, .int 0]))] := hD
  refine lv_aload_n hx hb dX7_init_18 rfl (lv_at hl 0 rfl) ?_
  refine lv_aload_n hx hb dX7_init_19 rfl (lv_at hl 0 rfl) ?_
  refine va_get (D := (dC, dI)) (ci := 7) (v := .int 2030) (C := RX7) (T := TX7) (N := 5) hx hb hts inlX7 hown hK hP 0 rfl rfl 1 (by decide) w8_ (fun _ h9 => h9) rfl dX7_init_20 ?_
  refine va_newa (atype := .int) hx hb w9_ (ty := .int) rfl hK hP hD hS hA (n := 2030) (N' := 2030) (a0 := (2030, .inl (fun _ => 0))) (fun cA => zzi cA 2030) (by decide +kernel) (by decide +kernel) (by decide +kernel) (by decide +kernel) (by decide +kernel) dX7_init_23 (fun hn2 kn2 H hK hP hD hS => ?_)
  have hP : va_P (dC, dI) vwCl [(h0, .inr (7, [.ref g0, .int 2030, .null, .null, .int 0])), (hn2, .inl (kn2, 2030, .inl (fun _ => 0)))] H := hP
  have hD : va_D A [(h0, .inr (7, [.ref g0, .int 2030, .null, .null, .int 0])), (hn2, .inl (kn2, 2030, .inl (fun _ => 0)))] := hD
  have hK : va_K (dC, dI) vwCl [(kn2, .int)] s := hK
  refine W.widen (k := 1) (n := 2030) (by decide +kernel) (by decide +kernel) ?_
  refine va_putF (D := (dC, dI)) (ci := 7) (v := .ref hn2) (ty := .array .int) (C := RX7) (T := TX7) (N := 5) hx hb hts inlX7 tyX7 tyX7_ok nmX7 hown hK hP hD hS 0 rfl rfl 2 (by decide) w10_ (fun _ h9 => h9) rfl hin rfl (by decide +kernel) rfl rfl (Nat.le_of_ble_eq_true rfl) dX7_init_25 (fun H locs hP hD hS => ?_)
  have hP : va_P (dC, dI) vwCl [(h0, .inr (7, [.ref g0, .int 2030, .ref hn2, .null, .int 0])), (hn2, .inl (kn2, 2030, .inl (fun _ => 0)))] H := hP
  have hD : va_D A [(h0, .inr (7, [.ref g0, .int 2030, .ref hn2, .null, .int 0])), (hn2, .inl (kn2, 2030, .inl (fun _ => 0)))] := hD
  refine lv_aload_n hx hb dX7_init_28 rfl (lv_at hl 0 rfl) ?_
  refine lv_aload_n hx hb dX7_init_29 rfl (lv_at hl 0 rfl) ?_
  refine va_get (D := (dC, dI)) (ci := 7) (v := .int 2030) (C := RX7) (T := TX7) (N := 5) hx hb hts inlX7 hown hK hP 0 rfl rfl 1 (by decide) w8_ (fun _ h9 => h9) rfl dX7_init_30 ?_
  refine lv_iconst (v := 1) hx hb dX7_init_33 (by decide +kernel) ?_
  refine lv_iadd hx hb dX7_init_34 ?_
  refine lv_topi (fun x3 e3 => ?_)
  obtain rfl : x3 = 2031 := by rw [e3]; decide
  refine lv_bipush (v := 16) hx hb dX7_init_35 (by decide +kernel) ?_
  refine lv_imul hx hb dX7_init_37 ?_
  refine lv_topi (fun x4 e4 => ?_)
  obtain rfl : x4 = 32496 := by rw [e4]; decide
  refine va_newa (atype := .int) hx hb w9_ (ty := .int) rfl hK hP hD hS hA (n := 32496) (N' := 32496) (a0 := (32496, .inl (fun _ => 0))) (fun cA => zzi cA 32496) (by decide +kernel) (by decide +kernel) (by decide +kernel) (by decide +kernel) (by decide +kernel) dX7_init_38 (fun hn5 kn5 H hK hP hD hS => ?_)
  have hP : va_P (dC, dI) vwCl [(h0, .inr (7, [.ref g0, .int 2030, .ref hn2, .null, .int 0])), (hn2, .inl (kn2, 2030, .inl (fun _ => 0))), (hn5, .inl (kn5, 32496, .inl (fun _ => 0)))] H := hP
  have hD : va_D A [(h0, .inr (7, [.ref g0, .int 2030, .ref hn2, .null, .int 0])), (hn2, .inl (kn2, 2030, .inl (fun _ => 0))), (hn5, .inl (kn5, 32496, .inl (fun _ => 0)))] := hD
  have hK : va_K (dC, dI) vwCl [(kn2, .int), (kn5, .int)] s := hK
  refine W.widen (k := 2) (n := 34526) (by decide +kernel) (by decide +kernel) ?_
  refine va_putF (D := (dC, dI)) (ci := 7) (v := .ref hn5) (ty := .array .int) (C := RX7) (T := TX7) (N := 5) hx hb hts inlX7 tyX7 tyX7_ok nmX7 hown hK hP hD hS 0 rfl rfl 3 (by decide) w11_ (fun _ h9 => h9) rfl hin rfl (by decide +kernel) rfl rfl (Nat.le_of_ble_eq_true rfl) dX7_init_40 (fun H locs hP hD hS => ?_)
  have hP : va_P (dC, dI) vwCl [(h0, .inr (7, [.ref g0, .int 2030, .ref hn2, .ref hn5, .int 0])), (hn2, .inl (kn2, 2030, .inl (fun _ => 0))), (hn5, .inl (kn5, 32496, .inl (fun _ => 0)))] H := hP
  have hD : va_D A [(h0, .inr (7, [.ref g0, .int 2030, .ref hn2, .ref hn5, .int 0])), (hn2, .inl (kn2, 2030, .inl (fun _ => 0))), (hn5, .inl (kn5, 32496, .inl (fun _ => 0)))] := hD
  have hP9 := hP.sub (ws' := [(h0, .inr (7, [.ref g0, .int 2030, .ref hn2, .ref hn5, .int 0])), (hn2, .inl (kn2, 2030, .inl (fun _ => 0))), (hn5, .inl (kn5, 32496, .inl (fun _ => 0)))]) [0, 1, 2] rfl
  have hD9 := hD.sub (ws' := [(h0, .inr (7, [.ref g0, .int 2030, .ref hn2, .ref hn5, .int 0])), (hn2, .inl (kn2, 2030, .inl (fun _ => 0))), (hn5, .inl (kn5, 32496, .inl (fun _ => 0)))]) [0, 1, 2] (by decide) rfl
  exact W.vret hx hb hr (fun t ht hW => ⟨⟨([hn2, hn5], [kn2, kn5]), rfl, trivial, by rw [ht]; exact hP9, va_K.moved hW.alike hK, hD9⟩, hS.F ht⟩) hS.2.2 dX7_init_43
set_option maxHeartbeats 4000000 in
set_option maxRecDepth 100000 in
theorem mX9_init (l : Launch) (dC : Nat → ClassId) (dI : Nat → Nat → Nat) (h0 : Nat) (g0 : Nat) (g1 : Nat) (sz : Nat) (base : Nat × Nat × Nat) : Met l yX9_init (.code yX9_init cX9_init 3 none :: wsL_law) ({ frames := 2, cells := 4, slots := 36531, locals := 43 }) (cPre (dC, dI) vwCl [.ref h0, .ref g0, .ref g1] sz base [(h0, .inr (9, [.null, .null, .null, .int 0, .int 0, .int 0, .int 0]))] []) (va_Qv (fun _ => True) (fun (u : List Nat × List ClassId) t => va_P (dC, dI) vwCl [(h0, .inr (9, [.ref g0, .ref (u.1.getD 1 0), .ref (u.1.getD 0 0), .int 0, .int (-1), .int (-1), .int (-1)])), ((u.1.getD 0 0), .inl ((u.2.getD 0 0), 2000, .inl (fun _ => 0))), ((u.1.getD 1 0), .inr (7, [.ref g1, .int 2030, .ref (u.1.getD 2 0), .ref (u.1.getD 3 0), .int 0])), ((u.1.getD 2 0), .inl ((u.2.getD 1 0), 2030, .inl (fun _ => 0))), ((u.1.getD 3 0), .inl ((u.2.getD 2 0), 32496, .inl (fun _ => 0)))] t.heap ∧ va_K (dC, dI) vwCl [((u.2.getD 0 0), .int), ((u.2.getD 1 0), .int), ((u.2.getD 2 0), .int)] t ∧ va_D (va_A [(h0, .inr (9, [.null, .null, .null, .int 0, .int 0, .int 0, .int 0]))] sz) [(h0, .inr (9, [.ref g0, .ref (u.1.getD 1 0), .ref (u.1.getD 0 0), .int 0, .int (-1), .int (-1), .int (-1)])), ((u.1.getD 0 0), .inl ((u.2.getD 0 0), 2000, .inl (fun _ => 0))), ((u.1.getD 1 0), .inr (7, [.ref g1, .int 2030, .ref (u.1.getD 2 0), .ref (u.1.getD 3 0), .int 0])), ((u.1.getD 2 0), .inl ((u.2.getD 1 0), 2030, .inl (fun _ => 0))), ((u.1.getD 3 0), .inl ((u.2.getD 2 0), 32496, .inl (fun _ => 0)))]) (va_A [(h0, .inr (9, [.null, .null, .null, .int 0, .int 0, .int 0, .int 0]))] sz)) 4 36531 (va_A [(h0, .inr (9, [.null, .null, .null, .int 0, .int 0, .int 0, .int 0]))] sz) := by
  refine Met.ofW (cc := cX9_init) (maxL := 3) (ret := none) (by decide) rfl ?_
  intro p e s m args below meth c s₁ B hml hv
  obtain ⟨rfl, hsz, hP, hK, hD0, hE⟩ := hv
  have hx := B.exec
  have hb := B.bytes
  have hr := B.returns
  have hts : ∀ w ∈ wsL_law, _ := fun w h => atoms_spec (ws := .code yX9_init cX9_init 3 none :: wsL_law) B.pre w (List.mem_cons_of_mem _ h)
  have hown : s.vm.findClass RX9 = some m.cls := findClass_of_methodNamed B.named
  have hlocks := B.notSynchronized
  have hin : meth.name = "<init>" := (name_of_methodNamed B.named B.method).1
  have w0_ := hts _ q400
  have w1_ := hts _ q11
  have w2_ := hts _ q12
  have w3_ := hts _ q32
  have w4_ := hts _ q401
  have w5_ := hts _ q385
  have w6_ := hts _ q386
  have w7_ := hts _ q389
  have w8_ := hts _ q387
  have w9_ := hts _ q402
  have w10_ := hts _ q264
  have w11_ := hts _ q265
  have w12_ := hts _ q404
  have w13_ := hts _ q274
  have w14_ := hts _ q403
  subst hsz
  have hD := hD0.self (sz := s.heap.size)
  generalize hAe : va_A [(h0, .inr (9, [.null, .null, .null, .int 0, .int 0, .int 0, .int 0]))] s.heap.size = A at hD ⊢
  have hA : ∀ q : Nat, s.heap.size ≤ q → A q := fun q h => by rw [← hAe]; exact Or.inr h
  have hAB : ∀ q : Nat, A q → base.1 ≤ q := fun q h => by rw [← hAe] at h; exact h.elim (fun ⟨k, e, hk⟩ => hD0.2 k _ hk) (fun hk => Nat.le_trans hE.1 hk)
  have hS : va_S A s.heap s.heap [] := va_S.rf
  have hl := lv_entry ([.ref h0, .ref g0, .ref g1]) (n := 3) (Nat.le_of_ble_eq_true rfl)
  rw [lg_entry_eq]
  generalize (lg_sl ([.ref h0, .ref g0, .ref g1]) ++ List.replicate (3 - (lg_sl ([.ref h0, .ref g0, .ref g1])).length) Slot.unset).toArray = ls at hl ⊢
  have hl : lv_has ls 3 [(0, .ref h0), (1, .ref g0), (2, .ref g1)] := hl
  have hP : va_P (dC, dI) vwCl [(h0, .inr (9, [.null, .null, .null, .int 0, .int 0, .int 0, .int 0]))] s.heap := hP
  have hK : va_K (dC, dI) vwCl [] s := hK
  obtain ⟨H, hH⟩ : ∃ H, H = s.heap := ⟨_, rfl⟩
  have hS : va_S A s.heap H [] := by rw [hH]; exact hS
  rw [← hH] at hP ⊢
  generalize ([] : List Loc) = locs at hS ⊢
  refine lv_aload_n hx hb dX9_init_0 rfl (lv_at hl 0 rfl) ?_
  refine W.objInit hx hb hown w0_ w1_ w2_ rfl (by rw [hml]; exact hl.1) rfl dX9_init_1 (Nat.le_of_ble_eq_true rfl) (Nat.le_of_ble_eq_true rfl) ?_
  refine W.eq (g2 := F0 m 4 ls []) rfl ?_
  refine lv_aload_n hx hb dX9_init_4 rfl (lv_at hl 0 rfl) ?_
  refine lv_sipush (v := 2000) hx hb dX9_init_5 (by decide +kernel) ?_
  refine va_newa (atype := .int) hx hb w3_ (ty := .int) rfl hK hP hD hS hA (n := 2000) (N' := 2000) (a0 := (2000, .inl (fun _ => 0))) (fun cA => zzi cA 2000) (by decide +kernel) (by decide +kernel) (by decide +kernel) (by decide +kernel) (by decide +kernel) dX9_init_8 (fun hn1 kn1 H hK hP hD hS => ?_)
  have hP : va_P (dC, dI) vwCl [(h0, .inr (9, [.null, .null, .null, .int 0, .int 0, .int 0, .int 0])), (hn1, .inl (kn1, 2000, .inl (fun _ => 0)))] H := hP
  have hD : va_D A [(h0, .inr (9, [.null, .null, .null, .int 0, .int 0, .int 0, .int 0])), (hn1, .inl (kn1, 2000, .inl (fun _ => 0)))] := hD
  have hK : va_K (dC, dI) vwCl [(kn1, .int)] s := hK
  refine W.widen (k := 1) (n := 2000) (by decide +kernel) (by decide +kernel) ?_
  refine va_putF (D := (dC, dI)) (ci := 9) (v := .ref hn1) (ty := .array .int) (C := RX9) (T := TX9) (N := 7) hx hb hts inlX9 tyX9 tyX9_ok nmX9 hown hK hP hD hS 0 rfl rfl 2 (by decide) w4_ (fun _ h9 => h9) rfl hin rfl (by decide +kernel) rfl rfl (Nat.le_of_ble_eq_true rfl) dX9_init_10 (fun H locs hP hD hS => ?_)
  have hP : va_P (dC, dI) vwCl [(h0, .inr (9, [.null, .null, .ref hn1, .int 0, .int 0, .int 0, .int 0])), (hn1, .inl (kn1, 2000, .inl (fun _ => 0)))] H := hP
  have hD : va_D A [(h0, .inr (9, [.null, .null, .ref hn1, .int 0, .int 0, .int 0, .int 0])), (hn1, .inl (kn1, 2000, .inl (fun _ => 0)))] := hD
  refine lv_aload_n hx hb dX9_init_13 rfl (lv_at hl 0 rfl) ?_
  refine lv_iconst (v := (-1)) hx hb dX9_init_14 (by decide +kernel) ?_
  refine va_put (D := (dC, dI)) (ci := 9) (v := .int (-1)) (ty := .int) (C := RX9) (T := TX9) (N := 7) hx hb hts inlX9 tyX9 tyX9_ok nmX9 hown hK hP hD hS 0 rfl rfl 4 (by decide) w5_ (fun _ h9 => h9) rfl (by decide +kernel) rfl rfl (Nat.le_of_ble_eq_true rfl) dX9_init_15 (fun H locs hP hD hS => ?_)
  have hP : va_P (dC, dI) vwCl [(h0, .inr (9, [.null, .null, .ref hn1, .int 0, .int (-1), .int 0, .int 0])), (hn1, .inl (kn1, 2000, .inl (fun _ => 0)))] H := hP
  have hD : va_D A [(h0, .inr (9, [.null, .null, .ref hn1, .int 0, .int (-1), .int 0, .int 0])), (hn1, .inl (kn1, 2000, .inl (fun _ => 0)))] := hD
  refine lv_aload_n hx hb dX9_init_18 rfl (lv_at hl 0 rfl) ?_
  refine lv_iconst (v := (-1)) hx hb dX9_init_19 (by decide +kernel) ?_
  refine va_put (D := (dC, dI)) (ci := 9) (v := .int (-1)) (ty := .int) (C := RX9) (T := TX9) (N := 7) hx hb hts inlX9 tyX9 tyX9_ok nmX9 hown hK hP hD hS 0 rfl rfl 5 (by decide) w6_ (fun _ h9 => h9) rfl (by decide +kernel) rfl rfl (Nat.le_of_ble_eq_true rfl) dX9_init_20 (fun H locs hP hD hS => ?_)
  have hP : va_P (dC, dI) vwCl [(h0, .inr (9, [.null, .null, .ref hn1, .int 0, .int (-1), .int (-1), .int 0])), (hn1, .inl (kn1, 2000, .inl (fun _ => 0)))] H := hP
  have hD : va_D A [(h0, .inr (9, [.null, .null, .ref hn1, .int 0, .int (-1), .int (-1), .int 0])), (hn1, .inl (kn1, 2000, .inl (fun _ => 0)))] := hD
  refine lv_aload_n hx hb dX9_init_23 rfl (lv_at hl 0 rfl) ?_
  refine lv_iconst (v := (-1)) hx hb dX9_init_24 (by decide +kernel) ?_
  refine va_put (D := (dC, dI)) (ci := 9) (v := .int (-1)) (ty := .int) (C := RX9) (T := TX9) (N := 7) hx hb hts inlX9 tyX9 tyX9_ok nmX9 hown hK hP hD hS 0 rfl rfl 6 (by decide) w7_ (fun _ h9 => h9) rfl (by decide +kernel) rfl rfl (Nat.le_of_ble_eq_true rfl) dX9_init_25 (fun H locs hP hD hS => ?_)
  have hP : va_P (dC, dI) vwCl [(h0, .inr (9, [.null, .null, .ref hn1, .int 0, .int (-1), .int (-1), .int (-1)])), (hn1, .inl (kn1, 2000, .inl (fun _ => 0)))] H := hP
  have hD : va_D A [(h0, .inr (9, [.null, .null, .ref hn1, .int 0, .int (-1), .int (-1), .int (-1)])), (hn1, .inl (kn1, 2000, .inl (fun _ => 0)))] := hD
  refine lv_aload_n hx hb dX9_init_28 rfl (lv_at hl 0 rfl) ?_
  refine lv_aload_n hx hb dX9_init_29 rfl (lv_at hl 1 rfl) ?_
  refine va_putF (D := (dC, dI)) (ci := 9) (v := .ref g0) (ty := .object "StackPrograms$StackSystem") (C := RX9) (T := TX9) (N := 7) hx hb hts inlX9 tyX9 tyX9_ok nmX9 hown hK hP hD hS 0 rfl rfl 0 (by decide) w8_ (fun _ h9 => h9) rfl hin rfl (by decide +kernel) rfl rfl (Nat.le_of_ble_eq_true rfl) dX9_init_30 (fun H locs hP hD hS => ?_)
  have hP : va_P (dC, dI) vwCl [(h0, .inr (9, [.ref g0, .null, .ref hn1, .int 0, .int (-1), .int (-1), .int (-1)])), (hn1, .inl (kn1, 2000, .inl (fun _ => 0)))] H := hP
  have hD : va_D A [(h0, .inr (9, [.ref g0, .null, .ref hn1, .int 0, .int (-1), .int (-1), .int (-1)])), (hn1, .inl (kn1, 2000, .inl (fun _ => 0)))] := hD
  refine lv_aload_n hx hb dX9_init_33 rfl (lv_at hl 0 rfl) ?_
  refine va_new (ci := 7) (fs := [.null, .int 0, .null, .null, .int 0]) (C := RX7) (T := TX7) (N := 5) hx hb hts inlX7 tyX7 tyX7_ok hown w9_ w10_ w11_ hK hP hD hS hA rfl (by decide +kernel) (by decide +kernel) (by decide +kernel) dX9_init_34 (fun hn2 H hP hD hS => ?_)
  have hP : va_P (dC, dI) vwCl [(h0, .inr (9, [.ref g0, .null, .ref hn1, .int 0, .int (-1), .int (-1), .int (-1)])), (hn1, .inl (kn1, 2000, .inl (fun _ => 0))), (hn2, .inr (7, [.null, .int 0, .null, .null, .int 0]))] H := hP
  have hD : va_D A [(h0, .inr (9, [.ref g0, .null, .ref hn1, .int 0, .int (-1), .int (-1), .int (-1)])), (hn1, .inl (kn1, 2000, .inl (fun _ => 0))), (hn2, .inr (7, [.null, .int 0, .null, .null, .int 0]))] := hD
  refine W.widen (k := 2) (n := 2005) (by decide +kernel) (by decide +kernel) ?_
  refine lv_dup hx hb dX9_init_37 rfl ?_
  refine lv_aload_n hx hb dX9_init_38 rfl (lv_at hl 2 rfl) ?_
  refine lv_sipush (v := 2030) hx hb dX9_init_39 (by decide +kernel) ?_
  refine kI (As := [.ref g1, .int 2030]) (rest := [.ref hn2, .ref h0]) ⟨hx, hb, hml, hown, hts⟩ (mX7_init_2030 l dC dI hn2 g1 H.size base) (cwI 2 hts (gT q275) rfl rfl rfl w11_ w12_ w13_ rfl (by decide +kernel) ⟨(by decide +kernel), (by decide +kernel)⟩) hK hP hD hS hA hE hAB [2] [0, 1] [] (wr := [(h0, .inr (9, [.ref g0, .null, .ref hn1, .int 0, .int (-1), .int (-1), .int (-1)])), (hn1, .inl (kn1, 2000, .inl (fun _ => 0)))]) rfl rfl (by decide) (by decide) (by decide) rfl rfl hl.1 rfl (Nat.le_of_ble_eq_true rfl) dX9_init_42 ⟨(by decide +kernel), (by decide +kernel)⟩ (fun u3 H locs _ hK hP hD hS => ?_)
  obtain ⟨hn3_0, ehn3_0⟩ : ∃ z, z = u3.1.getD 0 0 := ⟨_, rfl⟩
  obtain ⟨hn3_1, ehn3_1⟩ : ∃ z, z = u3.1.getD 1 0 := ⟨_, rfl⟩
  obtain ⟨kn3_0, ekn3_0⟩ : ∃ z, z = u3.2.getD 0 0 := ⟨_, rfl⟩
  obtain ⟨kn3_1, ekn3_1⟩ : ∃ z, z = u3.2.getD 1 0 := ⟨_, rfl⟩
  have hP : va_P (dC, dI) vwCl [(h0, .inr (9, [.ref g0, .null, .ref hn1, .int 0, .int (-1), .int (-1), .int (-1)])), (hn1, .inl (kn1, 2000, .inl (fun _ => 0))), (hn2, .inr (7, [.ref g1, .int 2030, .ref hn3_0, .ref hn3_1, .int 0])), (hn3_0, .inl (kn3_0, 2030, .inl (fun _ => 0))), (hn3_1, .inl (kn3_1, 32496, .inl (fun _ => 0)))] H := by simp only [ehn3_0, ehn3_1, ekn3_0, ekn3_1]; exact hP
  have hD : va_D A [(h0, .inr (9, [.ref g0, .null, .ref hn1, .int 0, .int (-1), .int (-1), .int (-1)])), (hn1, .inl (kn1, 2000, .inl (fun _ => 0))), (hn2, .inr (7, [.ref g1, .int 2030, .ref hn3_0, .ref hn3_1, .int 0])), (hn3_0, .inl (kn3_0, 2030, .inl (fun _ => 0))), (hn3_1, .inl (kn3_1, 32496, .inl (fun _ => 0)))] := by simp only [ehn3_0, ehn3_1, ekn3_0, ekn3_1]; exact hD
  have hK : va_K (dC, dI) vwCl [(kn1, .int), (kn3_0, .int), (kn3_1, .int)] s := by simp only [ehn3_0, ehn3_1, ekn3_0, ekn3_1]; exact hK
  refine W.widen (k := 4) (n := 36531) (by decide +kernel) (by decide +kernel) ?_
  refine va_putF (D := (dC, dI)) (ci := 9) (v := .ref hn2) (ty := .object "StackPrograms$Tower") (C := RX9) (T := TX9) (N := 7) hx hb hts inlX9 tyX9 tyX9_ok nmX9 hown hK hP hD hS 0 rfl rfl 1 (by decide) w14_ (fun _ h9 => h9) rfl hin rfl (by decide +kernel) rfl rfl (Nat.le_of_ble_eq_true rfl) dX9_init_45 (fun H locs hP hD hS => ?_)
  have hP : va_P (dC, dI) vwCl [(h0, .inr (9, [.ref g0, .ref hn2, .ref hn1, .int 0, .int (-1), .int (-1), .int (-1)])), (hn1, .inl (kn1, 2000, .inl (fun _ => 0))), (hn2, .inr (7, [.ref g1, .int 2030, .ref hn3_0, .ref hn3_1, .int 0])), (hn3_0, .inl (kn3_0, 2030, .inl (fun _ => 0))), (hn3_1, .inl (kn3_1, 32496, .inl (fun _ => 0)))] H := hP
  have hD : va_D A [(h0, .inr (9, [.ref g0, .ref hn2, .ref hn1, .int 0, .int (-1), .int (-1), .int (-1)])), (hn1, .inl (kn1, 2000, .inl (fun _ => 0))), (hn2, .inr (7, [.ref g1, .int 2030, .ref hn3_0, .ref hn3_1, .int 0])), (hn3_0, .inl (kn3_0, 2030, .inl (fun _ => 0))), (hn3_1, .inl (kn3_1, 32496, .inl (fun _ => 0)))] := hD
  have hP9 := hP.sub (ws' := [(h0, .inr (9, [.ref g0, .ref hn2, .ref hn1, .int 0, .int (-1), .int (-1), .int (-1)])), (hn1, .inl (kn1, 2000, .inl (fun _ => 0))), (hn2, .inr (7, [.ref g1, .int 2030, .ref hn3_0, .ref hn3_1, .int 0])), (hn3_0, .inl (kn3_0, 2030, .inl (fun _ => 0))), (hn3_1, .inl (kn3_1, 32496, .inl (fun _ => 0)))]) [0, 1, 2, 3, 4] rfl
  have hD9 := hD.sub (ws' := [(h0, .inr (9, [.ref g0, .ref hn2, .ref hn1, .int 0, .int (-1), .int (-1), .int (-1)])), (hn1, .inl (kn1, 2000, .inl (fun _ => 0))), (hn2, .inr (7, [.ref g1, .int 2030, .ref hn3_0, .ref hn3_1, .int 0])), (hn3_0, .inl (kn3_0, 2030, .inl (fun _ => 0))), (hn3_1, .inl (kn3_1, 32496, .inl (fun _ => 0)))]) [0, 1, 2, 3, 4] (by decide) rfl
  exact W.vret hx hb hr (fun t ht hW => ⟨⟨([hn1, hn2, hn3_0, hn3_1], [kn1, kn3_0, kn3_1]), rfl, trivial, by rw [ht]; exact hP9, va_K.moved hW.alike hK, hD9⟩, hS.F ht⟩) hS.2.2 dX9_init_48
set_option maxHeartbeats 4000000 in
set_option maxRecDepth 100000 in
theorem mX5_init (l : Launch) (dC : Nat → ClassId) (dI : Nat → Nat → Nat) (h0 : Nat) (g0 : Nat) (sz : Nat) (base : Nat × Nat × Nat) : Met l yX5_init (.code yX5_init cX5_init 2 none :: wsL_law) ({ frames := 1, cells := 2, slots := 776, locals := 20 }) (cPre (dC, dI) vwCl [.ref h0, .ref g0] sz base [(h0, .inr (5, [.null, .null, .null, .int 0]))] []) (va_Qv (fun _ => True) (fun (u : List Nat × List ClassId) t => va_P (dC, dI) vwCl [(h0, .inr (5, [.ref g0, .ref (u.1.getD 0 0), .ref (u.1.getD 1 0), .int (-1)])), ((u.1.getD 0 0), .inl ((u.2.getD 0 0), 768, .inr (.inl (fun _ => 0)))), ((u.1.getD 1 0), .inl ((u.2.getD 1 0), 8, .inr (.inl (fun _ => 0))))] t.heap ∧ va_K (dC, dI) vwCl [((u.2.getD 0 0), .long), ((u.2.getD 1 0), .long)] t ∧ va_D (va_A [(h0, .inr (5, [.null, .null, .null, .int 0]))] sz) [(h0, .inr (5, [.ref g0, .ref (u.1.getD 0 0), .ref (u.1.getD 1 0), .int (-1)])), ((u.1.getD 0 0), .inl ((u.2.getD 0 0), 768, .inr (.inl (fun _ => 0)))), ((u.1.getD 1 0), .inl ((u.2.getD 1 0), 8, .inr (.inl (fun _ => 0))))]) (va_A [(h0, .inr (5, [.null, .null, .null, .int 0]))] sz)) 2 776 (va_A [(h0, .inr (5, [.null, .null, .null, .int 0]))] sz) := by
  refine Met.ofW (cc := cX5_init) (maxL := 2) (ret := none) (by decide) rfl ?_
  intro p e s m args below meth c s₁ B hml hv
  obtain ⟨rfl, hsz, hP, hK, hD0, hE⟩ := hv
  have hx := B.exec
  have hb := B.bytes
  have hr := B.returns
  have hts : ∀ w ∈ wsL_law, _ := fun w h => atoms_spec (ws := .code yX5_init cX5_init 2 none :: wsL_law) B.pre w (List.mem_cons_of_mem _ h)
  have hown : s.vm.findClass RX5 = some m.cls := findClass_of_methodNamed B.named
  have hlocks := B.notSynchronized
  have hin : meth.name = "<init>" := (name_of_methodNamed B.named B.method).1
  have w0_ := hts _ q464
  have w1_ := hts _ q11
  have w2_ := hts _ q12
  have w3_ := hts _ q53
  have w4_ := hts _ q465
  have w5_ := hts _ q466
  have w6_ := hts _ q467
  have w7_ := hts _ q468
  subst hsz
  have hD := hD0.self (sz := s.heap.size)
  generalize hAe : va_A [(h0, .inr (5, [.null, .null, .null, .int 0]))] s.heap.size = A at hD ⊢
  have hA : ∀ q : Nat, s.heap.size ≤ q → A q := fun q h => by rw [← hAe]; exact Or.inr h
  have hAB : ∀ q : Nat, A q → base.1 ≤ q := fun q h => by rw [← hAe] at h; exact h.elim (fun ⟨k, e, hk⟩ => hD0.2 k _ hk) (fun hk => Nat.le_trans hE.1 hk)
  have hS : va_S A s.heap s.heap [] := va_S.rf
  have hl := lv_entry ([.ref h0, .ref g0]) (n := 2) (Nat.le_of_ble_eq_true rfl)
  rw [lg_entry_eq]
  generalize (lg_sl ([.ref h0, .ref g0]) ++ List.replicate (2 - (lg_sl ([.ref h0, .ref g0])).length) Slot.unset).toArray = ls at hl ⊢
  have hl : lv_has ls 2 [(0, .ref h0), (1, .ref g0)] := hl
  have hP : va_P (dC, dI) vwCl [(h0, .inr (5, [.null, .null, .null, .int 0]))] s.heap := hP
  have hK : va_K (dC, dI) vwCl [] s := hK
  obtain ⟨H, hH⟩ : ∃ H, H = s.heap := ⟨_, rfl⟩
  have hS : va_S A s.heap H [] := by rw [hH]; exact hS
  rw [← hH] at hP ⊢
  generalize ([] : List Loc) = locs at hS ⊢
  refine lv_aload_n hx hb dX5_init_0 rfl (lv_at hl 0 rfl) ?_
  refine W.objInit hx hb hown w0_ w1_ w2_ rfl (by rw [hml]; exact hl.1) rfl dX5_init_1 (Nat.le_of_ble_eq_true rfl) (Nat.le_of_ble_eq_true rfl) ?_
  refine W.eq (g2 := F0 m 4 ls []) rfl ?_
  refine lv_aload_n hx hb dX5_init_4 rfl (lv_at hl 0 rfl) ?_
  refine lv_sipush (v := 768) hx hb dX5_init_5 (by decide +kernel) ?_
  refine va_newa (atype := .long) hx hb w3_ (ty := .long) rfl hK hP hD hS hA (n := 768) (N' := 768) (a0 := (768, .inr (.inl (fun _ => 0)))) (fun cA => zzl cA 768) (by decide +kernel) (by decide +kernel) (by decide +kernel) (by decide +kernel) (by decide +kernel) dX5_init_8 (fun hn1 kn1 H hK hP hD hS => ?_)
  have hP : va_P (dC, dI) vwCl [(h0, .inr (5, [.null, .null, .null, .int 0])), (hn1, .inl (kn1, 768, .inr (.inl (fun _ => 0))))] H := hP
  have hD : va_D A [(h0, .inr (5, [.null, .null, .null, .int 0])), (hn1, .inl (kn1, 768, .inr (.inl (fun _ => 0))))] := hD
  have hK : va_K (dC, dI) vwCl [(kn1, .long)] s := hK
  refine W.widen (k := 1) (n := 768) (by decide +kernel) (by decide +kernel) ?_
  refine va_putF (D := (dC, dI)) (ci := 5) (v := .ref hn1) (ty := .array .long) (C := RX5) (T := TX5) (N := 4) hx hb hts inlX5 tyX5 tyX5_ok nmX5 hown hK hP hD hS 0 rfl rfl 1 (by decide) w4_ (fun _ h9 => h9) rfl hin rfl (by decide +kernel) rfl rfl (Nat.le_of_ble_eq_true rfl) dX5_init_10 (fun H locs hP hD hS => ?_)
  have hP : va_P (dC, dI) vwCl [(h0, .inr (5, [.null, .ref hn1, .null, .int 0])), (hn1, .inl (kn1, 768, .inr (.inl (fun _ => 0))))] H := hP
  have hD : va_D A [(h0, .inr (5, [.null, .ref hn1, .null, .int 0])), (hn1, .inl (kn1, 768, .inr (.inl (fun _ => 0))))] := hD
  refine lv_aload_n hx hb dX5_init_13 rfl (lv_at hl 0 rfl) ?_
  refine lv_bipush (v := 8) hx hb dX5_init_14 (by decide +kernel) ?_
  refine va_newa (atype := .long) hx hb w3_ (ty := .long) rfl hK hP hD hS hA (n := 8) (N' := 8) (a0 := (8, .inr (.inl (fun _ => 0)))) (fun cA => zzl cA 8) (by decide +kernel) (by decide +kernel) (by decide +kernel) (by decide +kernel) (by decide +kernel) dX5_init_16 (fun hn2 kn2 H hK hP hD hS => ?_)
  have hP : va_P (dC, dI) vwCl [(h0, .inr (5, [.null, .ref hn1, .null, .int 0])), (hn1, .inl (kn1, 768, .inr (.inl (fun _ => 0)))), (hn2, .inl (kn2, 8, .inr (.inl (fun _ => 0))))] H := hP
  have hD : va_D A [(h0, .inr (5, [.null, .ref hn1, .null, .int 0])), (hn1, .inl (kn1, 768, .inr (.inl (fun _ => 0)))), (hn2, .inl (kn2, 8, .inr (.inl (fun _ => 0))))] := hD
  have hK : va_K (dC, dI) vwCl [(kn1, .long), (kn2, .long)] s := hK
  refine W.widen (k := 2) (n := 776) (by decide +kernel) (by decide +kernel) ?_
  refine va_putF (D := (dC, dI)) (ci := 5) (v := .ref hn2) (ty := .array .long) (C := RX5) (T := TX5) (N := 4) hx hb hts inlX5 tyX5 tyX5_ok nmX5 hown hK hP hD hS 0 rfl rfl 2 (by decide) w5_ (fun _ h9 => h9) rfl hin rfl (by decide +kernel) rfl rfl (Nat.le_of_ble_eq_true rfl) dX5_init_18 (fun H locs hP hD hS => ?_)
  have hP : va_P (dC, dI) vwCl [(h0, .inr (5, [.null, .ref hn1, .ref hn2, .int 0])), (hn1, .inl (kn1, 768, .inr (.inl (fun _ => 0)))), (hn2, .inl (kn2, 8, .inr (.inl (fun _ => 0))))] H := hP
  have hD : va_D A [(h0, .inr (5, [.null, .ref hn1, .ref hn2, .int 0])), (hn1, .inl (kn1, 768, .inr (.inl (fun _ => 0)))), (hn2, .inl (kn2, 8, .inr (.inl (fun _ => 0))))] := hD
  refine lv_aload_n hx hb dX5_init_21 rfl (lv_at hl 0 rfl) ?_
  refine lv_iconst (v := (-1)) hx hb dX5_init_22 (by decide +kernel) ?_
  refine va_put (D := (dC, dI)) (ci := 5) (v := .int (-1)) (ty := .int) (C := RX5) (T := TX5) (N := 4) hx hb hts inlX5 tyX5 tyX5_ok nmX5 hown hK hP hD hS 0 rfl rfl 3 (by decide) w6_ (fun _ h9 => h9) rfl (by decide +kernel) rfl rfl (Nat.le_of_ble_eq_true rfl) dX5_init_23 (fun H locs hP hD hS => ?_)
  have hP : va_P (dC, dI) vwCl [(h0, .inr (5, [.null, .ref hn1, .ref hn2, .int (-1)])), (hn1, .inl (kn1, 768, .inr (.inl (fun _ => 0)))), (hn2, .inl (kn2, 8, .inr (.inl (fun _ => 0))))] H := hP
  have hD : va_D A [(h0, .inr (5, [.null, .ref hn1, .ref hn2, .int (-1)])), (hn1, .inl (kn1, 768, .inr (.inl (fun _ => 0)))), (hn2, .inl (kn2, 8, .inr (.inl (fun _ => 0))))] := hD
  refine lv_aload_n hx hb dX5_init_26 rfl (lv_at hl 0 rfl) ?_
  refine lv_aload_n hx hb dX5_init_27 rfl (lv_at hl 1 rfl) ?_
  refine va_putF (D := (dC, dI)) (ci := 5) (v := .ref g0) (ty := .object "StackPrograms$StackSystem") (C := RX5) (T := TX5) (N := 4) hx hb hts inlX5 tyX5 tyX5_ok nmX5 hown hK hP hD hS 0 rfl rfl 0 (by decide) w7_ (fun _ h9 => h9) rfl hin rfl (by decide +kernel) rfl rfl (Nat.le_of_ble_eq_true rfl) dX5_init_28 (fun H locs hP hD hS => ?_)
  have hP : va_P (dC, dI) vwCl [(h0, .inr (5, [.ref g0, .ref hn1, .ref hn2, .int (-1)])), (hn1, .inl (kn1, 768, .inr (.inl (fun _ => 0)))), (hn2, .inl (kn2, 8, .inr (.inl (fun _ => 0))))] H := hP
  have hD : va_D A [(h0, .inr (5, [.ref g0, .ref hn1, .ref hn2, .int (-1)])), (hn1, .inl (kn1, 768, .inr (.inl (fun _ => 0)))), (hn2, .inl (kn2, 8, .inr (.inl (fun _ => 0))))] := hD
  have hP9 := hP.sub (ws' := [(h0, .inr (5, [.ref g0, .ref hn1, .ref hn2, .int (-1)])), (hn1, .inl (kn1, 768, .inr (.inl (fun _ => 0)))), (hn2, .inl (kn2, 8, .inr (.inl (fun _ => 0))))]) [0, 1, 2] rfl
  have hD9 := hD.sub (ws' := [(h0, .inr (5, [.ref g0, .ref hn1, .ref hn2, .int (-1)])), (hn1, .inl (kn1, 768, .inr (.inl (fun _ => 0)))), (hn2, .inl (kn2, 8, .inr (.inl (fun _ => 0))))]) [0, 1, 2] (by decide) rfl
  exact W.vret hx hb hr (fun t ht hW => ⟨⟨([hn1, hn2], [kn1, kn2]), rfl, trivial, by rw [ht]; exact hP9, va_K.moved hW.alike hK, hD9⟩, hS.F ht⟩) hS.2.2 dX5_init_31
set_option maxHeartbeats 4000000 in
set_option maxRecDepth 100000 in
theorem mX0_init (l : Launch) (dC : Nat → ClassId) (dI : Nat → Nat → Nat) (h0 : Nat) (g0 : Nat) (sz : Nat) (base : Nat × Nat × Nat) : Met l yX0_init (.code yX0_init cX0_init 2 none :: wsL_law) ({ frames := 1, cells := 5, slots := 11646, locals := 20 }) (cPre (dC, dI) vwCl [.ref h0, .ref g0] sz base [(h0, .inr (0, [.null, .null, .null, .null, .null, .null, .int 0]))] []) (va_Qv (fun _ => True) (fun (u : List Nat × List ClassId) t => va_P (dC, dI) vwCl [(h0, .inr (0, [.ref (u.1.getD 0 0), .ref g0, .ref (u.1.getD 1 0), .ref (u.1.getD 2 0), .ref (u.1.getD 3 0), .ref (u.1.getD 4 0), .int 0])), ((u.1.getD 0 0), .inl ((u.2.getD 0 0), 11520, .inl (fun _ => 0))), ((u.1.getD 1 0), .inl ((u.2.getD 1 0), 40, .inl (fun _ => 0))), ((u.1.getD 2 0), .inl ((u.2.getD 2 0), 6, .inl (fun _ => 0))), ((u.1.getD 3 0), .inl ((u.2.getD 3 0), 40, .inl (fun _ => 0))), ((u.1.getD 4 0), .inl ((u.2.getD 4 0), 40, .inl (fun _ => 0)))] t.heap ∧ va_K (dC, dI) vwCl [((u.2.getD 0 0), .int), ((u.2.getD 1 0), .int), ((u.2.getD 2 0), .int), ((u.2.getD 3 0), .int), ((u.2.getD 4 0), .int)] t ∧ va_D (va_A [(h0, .inr (0, [.null, .null, .null, .null, .null, .null, .int 0]))] sz) [(h0, .inr (0, [.ref (u.1.getD 0 0), .ref g0, .ref (u.1.getD 1 0), .ref (u.1.getD 2 0), .ref (u.1.getD 3 0), .ref (u.1.getD 4 0), .int 0])), ((u.1.getD 0 0), .inl ((u.2.getD 0 0), 11520, .inl (fun _ => 0))), ((u.1.getD 1 0), .inl ((u.2.getD 1 0), 40, .inl (fun _ => 0))), ((u.1.getD 2 0), .inl ((u.2.getD 2 0), 6, .inl (fun _ => 0))), ((u.1.getD 3 0), .inl ((u.2.getD 3 0), 40, .inl (fun _ => 0))), ((u.1.getD 4 0), .inl ((u.2.getD 4 0), 40, .inl (fun _ => 0)))]) (va_A [(h0, .inr (0, [.null, .null, .null, .null, .null, .null, .int 0]))] sz)) 5 11646 (va_A [(h0, .inr (0, [.null, .null, .null, .null, .null, .null, .int 0]))] sz) := by
  refine Met.ofW (cc := cX0_init) (maxL := 2) (ret := none) (by decide) rfl ?_
  intro p e s m args below meth c s₁ B hml hv
  obtain ⟨rfl, hsz, hP, hK, hD0, hE⟩ := hv
  have hx := B.exec
  have hb := B.bytes
  have hr := B.returns
  have hts : ∀ w ∈ wsL_law, _ := fun w h => atoms_spec (ws := .code yX0_init cX0_init 2 none :: wsL_law) B.pre w (List.mem_cons_of_mem _ h)
  have hown : s.vm.findClass RX0 = some m.cls := findClass_of_methodNamed B.named
  have hlocks := B.notSynchronized
  have hin : meth.name = "<init>" := (name_of_methodNamed B.named B.method).1
  have w0_ := hts _ q954
  have w1_ := hts _ q11
  have w2_ := hts _ q12
  have w3_ := hts _ q32
  have w4_ := hts _ q955
  have w5_ := hts _ q956
  have w6_ := hts _ q957
  have w7_ := hts _ q958
  have w8_ := hts _ q959
  have w9_ := hts _ q960
  subst hsz
  have hD := hD0.self (sz := s.heap.size)
  generalize hAe : va_A [(h0, .inr (0, [.null, .null, .null, .null, .null, .null, .int 0]))] s.heap.size = A at hD ⊢
  have hA : ∀ q : Nat, s.heap.size ≤ q → A q := fun q h => by rw [← hAe]; exact Or.inr h
  have hAB : ∀ q : Nat, A q → base.1 ≤ q := fun q h => by rw [← hAe] at h; exact h.elim (fun ⟨k, e, hk⟩ => hD0.2 k _ hk) (fun hk => Nat.le_trans hE.1 hk)
  have hS : va_S A s.heap s.heap [] := va_S.rf
  have hl := lv_entry ([.ref h0, .ref g0]) (n := 2) (Nat.le_of_ble_eq_true rfl)
  rw [lg_entry_eq]
  generalize (lg_sl ([.ref h0, .ref g0]) ++ List.replicate (2 - (lg_sl ([.ref h0, .ref g0])).length) Slot.unset).toArray = ls at hl ⊢
  have hl : lv_has ls 2 [(0, .ref h0), (1, .ref g0)] := hl
  have hP : va_P (dC, dI) vwCl [(h0, .inr (0, [.null, .null, .null, .null, .null, .null, .int 0]))] s.heap := hP
  have hK : va_K (dC, dI) vwCl [] s := hK
  obtain ⟨H, hH⟩ : ∃ H, H = s.heap := ⟨_, rfl⟩
  have hS : va_S A s.heap H [] := by rw [hH]; exact hS
  rw [← hH] at hP ⊢
  generalize ([] : List Loc) = locs at hS ⊢
  refine lv_aload_n hx hb dX0_init_0 rfl (lv_at hl 0 rfl) ?_
  refine W.objInit hx hb hown w0_ w1_ w2_ rfl (by rw [hml]; exact hl.1) rfl dX0_init_1 (Nat.le_of_ble_eq_true rfl) (Nat.le_of_ble_eq_true rfl) ?_
  refine W.eq (g2 := F0 m 4 ls []) rfl ?_
  refine lv_aload_n hx hb dX0_init_4 rfl (lv_at hl 0 rfl) ?_
  refine lv_sipush (v := 11520) hx hb dX0_init_5 (by decide +kernel) ?_
  refine va_newa (atype := .int) hx hb w3_ (ty := .int) rfl hK hP hD hS hA (n := 11520) (N' := 11520) (a0 := (11520, .inl (fun _ => 0))) (fun cA => zzi cA 11520) (by decide +kernel) (by decide +kernel) (by decide +kernel) (by decide +kernel) (by decide +kernel) dX0_init_8 (fun hn1 kn1 H hK hP hD hS => ?_)
  have hP : va_P (dC, dI) vwCl [(h0, .inr (0, [.null, .null, .null, .null, .null, .null, .int 0])), (hn1, .inl (kn1, 11520, .inl (fun _ => 0)))] H := hP
  have hD : va_D A [(h0, .inr (0, [.null, .null, .null, .null, .null, .null, .int 0])), (hn1, .inl (kn1, 11520, .inl (fun _ => 0)))] := hD
  have hK : va_K (dC, dI) vwCl [(kn1, .int)] s := hK
  refine W.widen (k := 1) (n := 11520) (by decide +kernel) (by decide +kernel) ?_
  refine va_putF (D := (dC, dI)) (ci := 0) (v := .ref hn1) (ty := .array .int) (C := RX0) (T := TX0) (N := 7) hx hb hts inlX0 tyX0 tyX0_ok nmX0 hown hK hP hD hS 0 rfl rfl 0 (by decide) w4_ (fun _ h9 => h9) rfl hin rfl (by decide +kernel) rfl rfl (Nat.le_of_ble_eq_true rfl) dX0_init_10 (fun H locs hP hD hS => ?_)
  have hP : va_P (dC, dI) vwCl [(h0, .inr (0, [.ref hn1, .null, .null, .null, .null, .null, .int 0])), (hn1, .inl (kn1, 11520, .inl (fun _ => 0)))] H := hP
  have hD : va_D A [(h0, .inr (0, [.ref hn1, .null, .null, .null, .null, .null, .int 0])), (hn1, .inl (kn1, 11520, .inl (fun _ => 0)))] := hD
  refine lv_aload_n hx hb dX0_init_13 rfl (lv_at hl 0 rfl) ?_
  refine lv_bipush (v := 40) hx hb dX0_init_14 (by decide +kernel) ?_
  refine va_newa (atype := .int) hx hb w3_ (ty := .int) rfl hK hP hD hS hA (n := 40) (N' := 40) (a0 := (40, .inl (fun _ => 0))) (fun cA => zzi cA 40) (by decide +kernel) (by decide +kernel) (by decide +kernel) (by decide +kernel) (by decide +kernel) dX0_init_16 (fun hn2 kn2 H hK hP hD hS => ?_)
  have hP : va_P (dC, dI) vwCl [(h0, .inr (0, [.ref hn1, .null, .null, .null, .null, .null, .int 0])), (hn1, .inl (kn1, 11520, .inl (fun _ => 0))), (hn2, .inl (kn2, 40, .inl (fun _ => 0)))] H := hP
  have hD : va_D A [(h0, .inr (0, [.ref hn1, .null, .null, .null, .null, .null, .int 0])), (hn1, .inl (kn1, 11520, .inl (fun _ => 0))), (hn2, .inl (kn2, 40, .inl (fun _ => 0)))] := hD
  have hK : va_K (dC, dI) vwCl [(kn1, .int), (kn2, .int)] s := hK
  refine W.widen (k := 2) (n := 11560) (by decide +kernel) (by decide +kernel) ?_
  refine va_putF (D := (dC, dI)) (ci := 0) (v := .ref hn2) (ty := .array .int) (C := RX0) (T := TX0) (N := 7) hx hb hts inlX0 tyX0 tyX0_ok nmX0 hown hK hP hD hS 0 rfl rfl 2 (by decide) w5_ (fun _ h9 => h9) rfl hin rfl (by decide +kernel) rfl rfl (Nat.le_of_ble_eq_true rfl) dX0_init_18 (fun H locs hP hD hS => ?_)
  have hP : va_P (dC, dI) vwCl [(h0, .inr (0, [.ref hn1, .null, .ref hn2, .null, .null, .null, .int 0])), (hn1, .inl (kn1, 11520, .inl (fun _ => 0))), (hn2, .inl (kn2, 40, .inl (fun _ => 0)))] H := hP
  have hD : va_D A [(h0, .inr (0, [.ref hn1, .null, .ref hn2, .null, .null, .null, .int 0])), (hn1, .inl (kn1, 11520, .inl (fun _ => 0))), (hn2, .inl (kn2, 40, .inl (fun _ => 0)))] := hD
  refine lv_aload_n hx hb dX0_init_21 rfl (lv_at hl 0 rfl) ?_
  refine lv_bipush (v := 6) hx hb dX0_init_22 (by decide +kernel) ?_
  refine va_newa (atype := .int) hx hb w3_ (ty := .int) rfl hK hP hD hS hA (n := 6) (N' := 6) (a0 := (6, .inl (fun _ => 0))) (fun cA => zzi cA 6) (by decide +kernel) (by decide +kernel) (by decide +kernel) (by decide +kernel) (by decide +kernel) dX0_init_24 (fun hn3 kn3 H hK hP hD hS => ?_)
  have hP : va_P (dC, dI) vwCl [(h0, .inr (0, [.ref hn1, .null, .ref hn2, .null, .null, .null, .int 0])), (hn1, .inl (kn1, 11520, .inl (fun _ => 0))), (hn2, .inl (kn2, 40, .inl (fun _ => 0))), (hn3, .inl (kn3, 6, .inl (fun _ => 0)))] H := hP
  have hD : va_D A [(h0, .inr (0, [.ref hn1, .null, .ref hn2, .null, .null, .null, .int 0])), (hn1, .inl (kn1, 11520, .inl (fun _ => 0))), (hn2, .inl (kn2, 40, .inl (fun _ => 0))), (hn3, .inl (kn3, 6, .inl (fun _ => 0)))] := hD
  have hK : va_K (dC, dI) vwCl [(kn1, .int), (kn2, .int), (kn3, .int)] s := hK
  refine W.widen (k := 3) (n := 11566) (by decide +kernel) (by decide +kernel) ?_
  refine va_putF (D := (dC, dI)) (ci := 0) (v := .ref hn3) (ty := .array .int) (C := RX0) (T := TX0) (N := 7) hx hb hts inlX0 tyX0 tyX0_ok nmX0 hown hK hP hD hS 0 rfl rfl 3 (by decide) w6_ (fun _ h9 => h9) rfl hin rfl (by decide +kernel) rfl rfl (Nat.le_of_ble_eq_true rfl) dX0_init_26 (fun H locs hP hD hS => ?_)
  have hP : va_P (dC, dI) vwCl [(h0, .inr (0, [.ref hn1, .null, .ref hn2, .ref hn3, .null, .null, .int 0])), (hn1, .inl (kn1, 11520, .inl (fun _ => 0))), (hn2, .inl (kn2, 40, .inl (fun _ => 0))), (hn3, .inl (kn3, 6, .inl (fun _ => 0)))] H := hP
  have hD : va_D A [(h0, .inr (0, [.ref hn1, .null, .ref hn2, .ref hn3, .null, .null, .int 0])), (hn1, .inl (kn1, 11520, .inl (fun _ => 0))), (hn2, .inl (kn2, 40, .inl (fun _ => 0))), (hn3, .inl (kn3, 6, .inl (fun _ => 0)))] := hD
  refine lv_aload_n hx hb dX0_init_29 rfl (lv_at hl 0 rfl) ?_
  refine lv_bipush (v := 40) hx hb dX0_init_30 (by decide +kernel) ?_
  refine va_newa (atype := .int) hx hb w3_ (ty := .int) rfl hK hP hD hS hA (n := 40) (N' := 40) (a0 := (40, .inl (fun _ => 0))) (fun cA => zzi cA 40) (by decide +kernel) (by decide +kernel) (by decide +kernel) (by decide +kernel) (by decide +kernel) dX0_init_32 (fun hn4 kn4 H hK hP hD hS => ?_)
  have hP : va_P (dC, dI) vwCl [(h0, .inr (0, [.ref hn1, .null, .ref hn2, .ref hn3, .null, .null, .int 0])), (hn1, .inl (kn1, 11520, .inl (fun _ => 0))), (hn2, .inl (kn2, 40, .inl (fun _ => 0))), (hn3, .inl (kn3, 6, .inl (fun _ => 0))), (hn4, .inl (kn4, 40, .inl (fun _ => 0)))] H := hP
  have hD : va_D A [(h0, .inr (0, [.ref hn1, .null, .ref hn2, .ref hn3, .null, .null, .int 0])), (hn1, .inl (kn1, 11520, .inl (fun _ => 0))), (hn2, .inl (kn2, 40, .inl (fun _ => 0))), (hn3, .inl (kn3, 6, .inl (fun _ => 0))), (hn4, .inl (kn4, 40, .inl (fun _ => 0)))] := hD
  have hK : va_K (dC, dI) vwCl [(kn1, .int), (kn2, .int), (kn3, .int), (kn4, .int)] s := hK
  refine W.widen (k := 4) (n := 11606) (by decide +kernel) (by decide +kernel) ?_
  refine va_putF (D := (dC, dI)) (ci := 0) (v := .ref hn4) (ty := .array .int) (C := RX0) (T := TX0) (N := 7) hx hb hts inlX0 tyX0 tyX0_ok nmX0 hown hK hP hD hS 0 rfl rfl 4 (by decide) w7_ (fun _ h9 => h9) rfl hin rfl (by decide +kernel) rfl rfl (Nat.le_of_ble_eq_true rfl) dX0_init_34 (fun H locs hP hD hS => ?_)
  have hP : va_P (dC, dI) vwCl [(h0, .inr (0, [.ref hn1, .null, .ref hn2, .ref hn3, .ref hn4, .null, .int 0])), (hn1, .inl (kn1, 11520, .inl (fun _ => 0))), (hn2, .inl (kn2, 40, .inl (fun _ => 0))), (hn3, .inl (kn3, 6, .inl (fun _ => 0))), (hn4, .inl (kn4, 40, .inl (fun _ => 0)))] H := hP
  have hD : va_D A [(h0, .inr (0, [.ref hn1, .null, .ref hn2, .ref hn3, .ref hn4, .null, .int 0])), (hn1, .inl (kn1, 11520, .inl (fun _ => 0))), (hn2, .inl (kn2, 40, .inl (fun _ => 0))), (hn3, .inl (kn3, 6, .inl (fun _ => 0))), (hn4, .inl (kn4, 40, .inl (fun _ => 0)))] := hD
  refine lv_aload_n hx hb dX0_init_37 rfl (lv_at hl 0 rfl) ?_
  refine lv_bipush (v := 40) hx hb dX0_init_38 (by decide +kernel) ?_
  refine va_newa (atype := .int) hx hb w3_ (ty := .int) rfl hK hP hD hS hA (n := 40) (N' := 40) (a0 := (40, .inl (fun _ => 0))) (fun cA => zzi cA 40) (by decide +kernel) (by decide +kernel) (by decide +kernel) (by decide +kernel) (by decide +kernel) dX0_init_40 (fun hn5 kn5 H hK hP hD hS => ?_)
  have hP : va_P (dC, dI) vwCl [(h0, .inr (0, [.ref hn1, .null, .ref hn2, .ref hn3, .ref hn4, .null, .int 0])), (hn1, .inl (kn1, 11520, .inl (fun _ => 0))), (hn2, .inl (kn2, 40, .inl (fun _ => 0))), (hn3, .inl (kn3, 6, .inl (fun _ => 0))), (hn4, .inl (kn4, 40, .inl (fun _ => 0))), (hn5, .inl (kn5, 40, .inl (fun _ => 0)))] H := hP
  have hD : va_D A [(h0, .inr (0, [.ref hn1, .null, .ref hn2, .ref hn3, .ref hn4, .null, .int 0])), (hn1, .inl (kn1, 11520, .inl (fun _ => 0))), (hn2, .inl (kn2, 40, .inl (fun _ => 0))), (hn3, .inl (kn3, 6, .inl (fun _ => 0))), (hn4, .inl (kn4, 40, .inl (fun _ => 0))), (hn5, .inl (kn5, 40, .inl (fun _ => 0)))] := hD
  have hK : va_K (dC, dI) vwCl [(kn1, .int), (kn2, .int), (kn3, .int), (kn4, .int), (kn5, .int)] s := hK
  refine W.widen (k := 5) (n := 11646) (by decide +kernel) (by decide +kernel) ?_
  refine va_putF (D := (dC, dI)) (ci := 0) (v := .ref hn5) (ty := .array .int) (C := RX0) (T := TX0) (N := 7) hx hb hts inlX0 tyX0 tyX0_ok nmX0 hown hK hP hD hS 0 rfl rfl 5 (by decide) w8_ (fun _ h9 => h9) rfl hin rfl (by decide +kernel) rfl rfl (Nat.le_of_ble_eq_true rfl) dX0_init_42 (fun H locs hP hD hS => ?_)
  have hP : va_P (dC, dI) vwCl [(h0, .inr (0, [.ref hn1, .null, .ref hn2, .ref hn3, .ref hn4, .ref hn5, .int 0])), (hn1, .inl (kn1, 11520, .inl (fun _ => 0))), (hn2, .inl (kn2, 40, .inl (fun _ => 0))), (hn3, .inl (kn3, 6, .inl (fun _ => 0))), (hn4, .inl (kn4, 40, .inl (fun _ => 0))), (hn5, .inl (kn5, 40, .inl (fun _ => 0)))] H := hP
  have hD : va_D A [(h0, .inr (0, [.ref hn1, .null, .ref hn2, .ref hn3, .ref hn4, .ref hn5, .int 0])), (hn1, .inl (kn1, 11520, .inl (fun _ => 0))), (hn2, .inl (kn2, 40, .inl (fun _ => 0))), (hn3, .inl (kn3, 6, .inl (fun _ => 0))), (hn4, .inl (kn4, 40, .inl (fun _ => 0))), (hn5, .inl (kn5, 40, .inl (fun _ => 0)))] := hD
  refine lv_aload_n hx hb dX0_init_45 rfl (lv_at hl 0 rfl) ?_
  refine lv_aload_n hx hb dX0_init_46 rfl (lv_at hl 1 rfl) ?_
  refine va_putF (D := (dC, dI)) (ci := 0) (v := .ref g0) (ty := .object "StackPrograms$Program") (C := RX0) (T := TX0) (N := 7) hx hb hts inlX0 tyX0 tyX0_ok nmX0 hown hK hP hD hS 0 rfl rfl 1 (by decide) w9_ (fun _ h9 => h9) rfl hin rfl (by decide +kernel) rfl rfl (Nat.le_of_ble_eq_true rfl) dX0_init_47 (fun H locs hP hD hS => ?_)
  have hP : va_P (dC, dI) vwCl [(h0, .inr (0, [.ref hn1, .ref g0, .ref hn2, .ref hn3, .ref hn4, .ref hn5, .int 0])), (hn1, .inl (kn1, 11520, .inl (fun _ => 0))), (hn2, .inl (kn2, 40, .inl (fun _ => 0))), (hn3, .inl (kn3, 6, .inl (fun _ => 0))), (hn4, .inl (kn4, 40, .inl (fun _ => 0))), (hn5, .inl (kn5, 40, .inl (fun _ => 0)))] H := hP
  have hD : va_D A [(h0, .inr (0, [.ref hn1, .ref g0, .ref hn2, .ref hn3, .ref hn4, .ref hn5, .int 0])), (hn1, .inl (kn1, 11520, .inl (fun _ => 0))), (hn2, .inl (kn2, 40, .inl (fun _ => 0))), (hn3, .inl (kn3, 6, .inl (fun _ => 0))), (hn4, .inl (kn4, 40, .inl (fun _ => 0))), (hn5, .inl (kn5, 40, .inl (fun _ => 0)))] := hD
  have hP9 := hP.sub (ws' := [(h0, .inr (0, [.ref hn1, .ref g0, .ref hn2, .ref hn3, .ref hn4, .ref hn5, .int 0])), (hn1, .inl (kn1, 11520, .inl (fun _ => 0))), (hn2, .inl (kn2, 40, .inl (fun _ => 0))), (hn3, .inl (kn3, 6, .inl (fun _ => 0))), (hn4, .inl (kn4, 40, .inl (fun _ => 0))), (hn5, .inl (kn5, 40, .inl (fun _ => 0)))]) [0, 1, 2, 3, 4, 5] rfl
  have hD9 := hD.sub (ws' := [(h0, .inr (0, [.ref hn1, .ref g0, .ref hn2, .ref hn3, .ref hn4, .ref hn5, .int 0])), (hn1, .inl (kn1, 11520, .inl (fun _ => 0))), (hn2, .inl (kn2, 40, .inl (fun _ => 0))), (hn3, .inl (kn3, 6, .inl (fun _ => 0))), (hn4, .inl (kn4, 40, .inl (fun _ => 0))), (hn5, .inl (kn5, 40, .inl (fun _ => 0)))]) [0, 1, 2, 3, 4, 5] (by decide) rfl
  exact W.vret hx hb hr (fun t ht hW => ⟨⟨([hn1, hn2, hn3, hn4, hn5], [kn1, kn2, kn3, kn4, kn5]), rfl, trivial, by rw [ht]; exact hP9, va_K.moved hW.alike hK, hD9⟩, hS.F ht⟩) hS.2.2 dX0_init_50
set_option maxHeartbeats 4000000 in
set_option maxRecDepth 100000 in
theorem mX8_init (l : Launch) (dC : Nat → ClassId) (dI : Nat → Nat → Nat) (h0 : Nat) (g0 : Nat) (g1 : Nat) (sz : Nat) (base : Nat × Nat × Nat) : Met l yX8_init (.code yX8_init cX8_init 3 none :: wsL_law) ({ frames := 1, cells := 7, slots := 28010, locals := 20 }) (cPre (dC, dI) vwCl [.ref h0, .ref g0, .ref g1] sz base [(h0, .inr (8, [.null, .null, .null, .null, .null, .null, .int 0, .null, .null, .null, .int 0, .int 0, .int 0]))] []) (va_Qv (fun _ => True) (fun (u : List Nat × List ClassId) t => va_P (dC, dI) vwCl [(h0, .inr (8, [.ref g0, .ref g1, .ref (u.1.getD 0 0), .ref (u.1.getD 1 0), .ref (u.1.getD 2 0), .ref (u.1.getD 3 0), .int 0, .ref (u.1.getD 4 0), .ref (u.1.getD 5 0), .ref (u.1.getD 6 0), .int 0, .int 0, .int 0])), ((u.1.getD 0 0), .inl ((u.2.getD 0 0), 2000, .inl (fun _ => 0))), ((u.1.getD 1 0), .inl ((u.2.getD 1 0), 2000, .inl (fun _ => 0))), ((u.1.getD 2 0), .inl ((u.2.getD 2 0), 2000, .inl (fun _ => 0))), ((u.1.getD 3 0), .inl ((u.2.getD 3 0), 2000, .inl (fun _ => 0))), ((u.1.getD 4 0), .inl ((u.2.getD 4 0), 2001, .inl (fun _ => 0))), ((u.1.getD 5 0), .inl ((u.2.getD 5 0), 2001, .inl (fun _ => 0))), ((u.1.getD 6 0), .inl ((u.2.getD 6 0), 16008, .inl (fun _ => 0)))] t.heap ∧ va_K (dC, dI) vwCl [((u.2.getD 0 0), .int), ((u.2.getD 1 0), .int), ((u.2.getD 2 0), .int), ((u.2.getD 3 0), .int), ((u.2.getD 4 0), .int), ((u.2.getD 5 0), .int), ((u.2.getD 6 0), .int)] t ∧ va_D (va_A [(h0, .inr (8, [.null, .null, .null, .null, .null, .null, .int 0, .null, .null, .null, .int 0, .int 0, .int 0]))] sz) [(h0, .inr (8, [.ref g0, .ref g1, .ref (u.1.getD 0 0), .ref (u.1.getD 1 0), .ref (u.1.getD 2 0), .ref (u.1.getD 3 0), .int 0, .ref (u.1.getD 4 0), .ref (u.1.getD 5 0), .ref (u.1.getD 6 0), .int 0, .int 0, .int 0])), ((u.1.getD 0 0), .inl ((u.2.getD 0 0), 2000, .inl (fun _ => 0))), ((u.1.getD 1 0), .inl ((u.2.getD 1 0), 2000, .inl (fun _ => 0))), ((u.1.getD 2 0), .inl ((u.2.getD 2 0), 2000, .inl (fun _ => 0))), ((u.1.getD 3 0), .inl ((u.2.getD 3 0), 2000, .inl (fun _ => 0))), ((u.1.getD 4 0), .inl ((u.2.getD 4 0), 2001, .inl (fun _ => 0))), ((u.1.getD 5 0), .inl ((u.2.getD 5 0), 2001, .inl (fun _ => 0))), ((u.1.getD 6 0), .inl ((u.2.getD 6 0), 16008, .inl (fun _ => 0)))]) (va_A [(h0, .inr (8, [.null, .null, .null, .null, .null, .null, .int 0, .null, .null, .null, .int 0, .int 0, .int 0]))] sz)) 7 28010 (va_A [(h0, .inr (8, [.null, .null, .null, .null, .null, .null, .int 0, .null, .null, .null, .int 0, .int 0, .int 0]))] sz) := by
  refine Met.ofW (cc := cX8_init) (maxL := 3) (ret := none) (by decide) rfl ?_
  intro p e s m args below meth c s₁ B hml hv
  obtain ⟨rfl, hsz, hP, hK, hD0, hE⟩ := hv
  have hx := B.exec
  have hb := B.bytes
  have hr := B.returns
  have hts : ∀ w ∈ wsL_law, _ := fun w h => atoms_spec (ws := .code yX8_init cX8_init 3 none :: wsL_law) B.pre w (List.mem_cons_of_mem _ h)
  have hown : s.vm.findClass RX8 = some m.cls := findClass_of_methodNamed B.named
  have hlocks := B.notSynchronized
  have hin : meth.name = "<init>" := (name_of_methodNamed B.named B.method).1
  have w0_ := hts _ q1055
  have w1_ := hts _ q11
  have w2_ := hts _ q12
  have w3_ := hts _ q32
  have w4_ := hts _ q1056
  have w5_ := hts _ q1057
  have w6_ := hts _ q1058
  have w7_ := hts _ q1059
  have w8_ := hts _ q1060
  have w9_ := hts _ q1061
  have w10_ := hts _ q1062
  have w11_ := hts _ q1063
  have w12_ := hts _ q1064
  subst hsz
  have hD := hD0.self (sz := s.heap.size)
  generalize hAe : va_A [(h0, .inr (8, [.null, .null, .null, .null, .null, .null, .int 0, .null, .null, .null, .int 0, .int 0, .int 0]))] s.heap.size = A at hD ⊢
  have hA : ∀ q : Nat, s.heap.size ≤ q → A q := fun q h => by rw [← hAe]; exact Or.inr h
  have hAB : ∀ q : Nat, A q → base.1 ≤ q := fun q h => by rw [← hAe] at h; exact h.elim (fun ⟨k, e, hk⟩ => hD0.2 k _ hk) (fun hk => Nat.le_trans hE.1 hk)
  have hS : va_S A s.heap s.heap [] := va_S.rf
  have hl := lv_entry ([.ref h0, .ref g0, .ref g1]) (n := 3) (Nat.le_of_ble_eq_true rfl)
  rw [lg_entry_eq]
  generalize (lg_sl ([.ref h0, .ref g0, .ref g1]) ++ List.replicate (3 - (lg_sl ([.ref h0, .ref g0, .ref g1])).length) Slot.unset).toArray = ls at hl ⊢
  have hl : lv_has ls 3 [(0, .ref h0), (1, .ref g0), (2, .ref g1)] := hl
  have hP : va_P (dC, dI) vwCl [(h0, .inr (8, [.null, .null, .null, .null, .null, .null, .int 0, .null, .null, .null, .int 0, .int 0, .int 0]))] s.heap := hP
  have hK : va_K (dC, dI) vwCl [] s := hK
  obtain ⟨H, hH⟩ : ∃ H, H = s.heap := ⟨_, rfl⟩
  have hS : va_S A s.heap H [] := by rw [hH]; exact hS
  rw [← hH] at hP ⊢
  generalize ([] : List Loc) = locs at hS ⊢
  refine lv_aload_n hx hb dX8_init_0 rfl (lv_at hl 0 rfl) ?_
  refine W.objInit hx hb hown w0_ w1_ w2_ rfl (by rw [hml]; exact hl.1) rfl dX8_init_1 (Nat.le_of_ble_eq_true rfl) (Nat.le_of_ble_eq_true rfl) ?_
  refine W.eq (g2 := F0 m 4 ls []) rfl ?_
  refine lv_aload_n hx hb dX8_init_4 rfl (lv_at hl 0 rfl) ?_
  refine lv_sipush (v := 2000) hx hb dX8_init_5 (by decide +kernel) ?_
  refine va_newa (atype := .int) hx hb w3_ (ty := .int) rfl hK hP hD hS hA (n := 2000) (N' := 2000) (a0 := (2000, .inl (fun _ => 0))) (fun cA => zzi cA 2000) (by decide +kernel) (by decide +kernel) (by decide +kernel) (by decide +kernel) (by decide +kernel) dX8_init_8 (fun hn1 kn1 H hK hP hD hS => ?_)
  have hP : va_P (dC, dI) vwCl [(h0, .inr (8, [.null, .null, .null, .null, .null, .null, .int 0, .null, .null, .null, .int 0, .int 0, .int 0])), (hn1, .inl (kn1, 2000, .inl (fun _ => 0)))] H := hP
  have hD : va_D A [(h0, .inr (8, [.null, .null, .null, .null, .null, .null, .int 0, .null, .null, .null, .int 0, .int 0, .int 0])), (hn1, .inl (kn1, 2000, .inl (fun _ => 0)))] := hD
  have hK : va_K (dC, dI) vwCl [(kn1, .int)] s := hK
  refine W.widen (k := 1) (n := 2000) (by decide +kernel) (by decide +kernel) ?_
  refine va_putF (D := (dC, dI)) (ci := 8) (v := .ref hn1) (ty := .array .int) (C := RX8) (T := TX8) (N := 13) hx hb hts inlX8 tyX8 tyX8_ok nmX8 hown hK hP hD hS 0 rfl rfl 2 (by decide) w4_ (fun _ h9 => h9) rfl hin rfl (by decide +kernel) rfl rfl (Nat.le_of_ble_eq_true rfl) dX8_init_10 (fun H locs hP hD hS => ?_)
  have hP : va_P (dC, dI) vwCl [(h0, .inr (8, [.null, .null, .ref hn1, .null, .null, .null, .int 0, .null, .null, .null, .int 0, .int 0, .int 0])), (hn1, .inl (kn1, 2000, .inl (fun _ => 0)))] H := hP
  have hD : va_D A [(h0, .inr (8, [.null, .null, .ref hn1, .null, .null, .null, .int 0, .null, .null, .null, .int 0, .int 0, .int 0])), (hn1, .inl (kn1, 2000, .inl (fun _ => 0)))] := hD
  refine lv_aload_n hx hb dX8_init_13 rfl (lv_at hl 0 rfl) ?_
  refine lv_sipush (v := 2000) hx hb dX8_init_14 (by decide +kernel) ?_
  refine va_newa (atype := .int) hx hb w3_ (ty := .int) rfl hK hP hD hS hA (n := 2000) (N' := 2000) (a0 := (2000, .inl (fun _ => 0))) (fun cA => zzi cA 2000) (by decide +kernel) (by decide +kernel) (by decide +kernel) (by decide +kernel) (by decide +kernel) dX8_init_17 (fun hn2 kn2 H hK hP hD hS => ?_)
  have hP : va_P (dC, dI) vwCl [(h0, .inr (8, [.null, .null, .ref hn1, .null, .null, .null, .int 0, .null, .null, .null, .int 0, .int 0, .int 0])), (hn1, .inl (kn1, 2000, .inl (fun _ => 0))), (hn2, .inl (kn2, 2000, .inl (fun _ => 0)))] H := hP
  have hD : va_D A [(h0, .inr (8, [.null, .null, .ref hn1, .null, .null, .null, .int 0, .null, .null, .null, .int 0, .int 0, .int 0])), (hn1, .inl (kn1, 2000, .inl (fun _ => 0))), (hn2, .inl (kn2, 2000, .inl (fun _ => 0)))] := hD
  have hK : va_K (dC, dI) vwCl [(kn1, .int), (kn2, .int)] s := hK
  refine W.widen (k := 2) (n := 4000) (by decide +kernel) (by decide +kernel) ?_
  refine va_putF (D := (dC, dI)) (ci := 8) (v := .ref hn2) (ty := .array .int) (C := RX8) (T := TX8) (N := 13) hx hb hts inlX8 tyX8 tyX8_ok nmX8 hown hK hP hD hS 0 rfl rfl 3 (by decide) w5_ (fun _ h9 => h9) rfl hin rfl (by decide +kernel) rfl rfl (Nat.le_of_ble_eq_true rfl) dX8_init_19 (fun H locs hP hD hS => ?_)
  have hP : va_P (dC, dI) vwCl [(h0, .inr (8, [.null, .null, .ref hn1, .ref hn2, .null, .null, .int 0, .null, .null, .null, .int 0, .int 0, .int 0])), (hn1, .inl (kn1, 2000, .inl (fun _ => 0))), (hn2, .inl (kn2, 2000, .inl (fun _ => 0)))] H := hP
  have hD : va_D A [(h0, .inr (8, [.null, .null, .ref hn1, .ref hn2, .null, .null, .int 0, .null, .null, .null, .int 0, .int 0, .int 0])), (hn1, .inl (kn1, 2000, .inl (fun _ => 0))), (hn2, .inl (kn2, 2000, .inl (fun _ => 0)))] := hD
  refine lv_aload_n hx hb dX8_init_22 rfl (lv_at hl 0 rfl) ?_
  refine lv_sipush (v := 2000) hx hb dX8_init_23 (by decide +kernel) ?_
  refine va_newa (atype := .int) hx hb w3_ (ty := .int) rfl hK hP hD hS hA (n := 2000) (N' := 2000) (a0 := (2000, .inl (fun _ => 0))) (fun cA => zzi cA 2000) (by decide +kernel) (by decide +kernel) (by decide +kernel) (by decide +kernel) (by decide +kernel) dX8_init_26 (fun hn3 kn3 H hK hP hD hS => ?_)
  have hP : va_P (dC, dI) vwCl [(h0, .inr (8, [.null, .null, .ref hn1, .ref hn2, .null, .null, .int 0, .null, .null, .null, .int 0, .int 0, .int 0])), (hn1, .inl (kn1, 2000, .inl (fun _ => 0))), (hn2, .inl (kn2, 2000, .inl (fun _ => 0))), (hn3, .inl (kn3, 2000, .inl (fun _ => 0)))] H := hP
  have hD : va_D A [(h0, .inr (8, [.null, .null, .ref hn1, .ref hn2, .null, .null, .int 0, .null, .null, .null, .int 0, .int 0, .int 0])), (hn1, .inl (kn1, 2000, .inl (fun _ => 0))), (hn2, .inl (kn2, 2000, .inl (fun _ => 0))), (hn3, .inl (kn3, 2000, .inl (fun _ => 0)))] := hD
  have hK : va_K (dC, dI) vwCl [(kn1, .int), (kn2, .int), (kn3, .int)] s := hK
  refine W.widen (k := 3) (n := 6000) (by decide +kernel) (by decide +kernel) ?_
  refine va_putF (D := (dC, dI)) (ci := 8) (v := .ref hn3) (ty := .array .int) (C := RX8) (T := TX8) (N := 13) hx hb hts inlX8 tyX8 tyX8_ok nmX8 hown hK hP hD hS 0 rfl rfl 4 (by decide) w6_ (fun _ h9 => h9) rfl hin rfl (by decide +kernel) rfl rfl (Nat.le_of_ble_eq_true rfl) dX8_init_28 (fun H locs hP hD hS => ?_)
  have hP : va_P (dC, dI) vwCl [(h0, .inr (8, [.null, .null, .ref hn1, .ref hn2, .ref hn3, .null, .int 0, .null, .null, .null, .int 0, .int 0, .int 0])), (hn1, .inl (kn1, 2000, .inl (fun _ => 0))), (hn2, .inl (kn2, 2000, .inl (fun _ => 0))), (hn3, .inl (kn3, 2000, .inl (fun _ => 0)))] H := hP
  have hD : va_D A [(h0, .inr (8, [.null, .null, .ref hn1, .ref hn2, .ref hn3, .null, .int 0, .null, .null, .null, .int 0, .int 0, .int 0])), (hn1, .inl (kn1, 2000, .inl (fun _ => 0))), (hn2, .inl (kn2, 2000, .inl (fun _ => 0))), (hn3, .inl (kn3, 2000, .inl (fun _ => 0)))] := hD
  refine lv_aload_n hx hb dX8_init_31 rfl (lv_at hl 0 rfl) ?_
  refine lv_sipush (v := 2000) hx hb dX8_init_32 (by decide +kernel) ?_
  refine va_newa (atype := .int) hx hb w3_ (ty := .int) rfl hK hP hD hS hA (n := 2000) (N' := 2000) (a0 := (2000, .inl (fun _ => 0))) (fun cA => zzi cA 2000) (by decide +kernel) (by decide +kernel) (by decide +kernel) (by decide +kernel) (by decide +kernel) dX8_init_35 (fun hn4 kn4 H hK hP hD hS => ?_)
  have hP : va_P (dC, dI) vwCl [(h0, .inr (8, [.null, .null, .ref hn1, .ref hn2, .ref hn3, .null, .int 0, .null, .null, .null, .int 0, .int 0, .int 0])), (hn1, .inl (kn1, 2000, .inl (fun _ => 0))), (hn2, .inl (kn2, 2000, .inl (fun _ => 0))), (hn3, .inl (kn3, 2000, .inl (fun _ => 0))), (hn4, .inl (kn4, 2000, .inl (fun _ => 0)))] H := hP
  have hD : va_D A [(h0, .inr (8, [.null, .null, .ref hn1, .ref hn2, .ref hn3, .null, .int 0, .null, .null, .null, .int 0, .int 0, .int 0])), (hn1, .inl (kn1, 2000, .inl (fun _ => 0))), (hn2, .inl (kn2, 2000, .inl (fun _ => 0))), (hn3, .inl (kn3, 2000, .inl (fun _ => 0))), (hn4, .inl (kn4, 2000, .inl (fun _ => 0)))] := hD
  have hK : va_K (dC, dI) vwCl [(kn1, .int), (kn2, .int), (kn3, .int), (kn4, .int)] s := hK
  refine W.widen (k := 4) (n := 8000) (by decide +kernel) (by decide +kernel) ?_
  refine va_putF (D := (dC, dI)) (ci := 8) (v := .ref hn4) (ty := .array .int) (C := RX8) (T := TX8) (N := 13) hx hb hts inlX8 tyX8 tyX8_ok nmX8 hown hK hP hD hS 0 rfl rfl 5 (by decide) w7_ (fun _ h9 => h9) rfl hin rfl (by decide +kernel) rfl rfl (Nat.le_of_ble_eq_true rfl) dX8_init_37 (fun H locs hP hD hS => ?_)
  have hP : va_P (dC, dI) vwCl [(h0, .inr (8, [.null, .null, .ref hn1, .ref hn2, .ref hn3, .ref hn4, .int 0, .null, .null, .null, .int 0, .int 0, .int 0])), (hn1, .inl (kn1, 2000, .inl (fun _ => 0))), (hn2, .inl (kn2, 2000, .inl (fun _ => 0))), (hn3, .inl (kn3, 2000, .inl (fun _ => 0))), (hn4, .inl (kn4, 2000, .inl (fun _ => 0)))] H := hP
  have hD : va_D A [(h0, .inr (8, [.null, .null, .ref hn1, .ref hn2, .ref hn3, .ref hn4, .int 0, .null, .null, .null, .int 0, .int 0, .int 0])), (hn1, .inl (kn1, 2000, .inl (fun _ => 0))), (hn2, .inl (kn2, 2000, .inl (fun _ => 0))), (hn3, .inl (kn3, 2000, .inl (fun _ => 0))), (hn4, .inl (kn4, 2000, .inl (fun _ => 0)))] := hD
  refine lv_aload_n hx hb dX8_init_40 rfl (lv_at hl 0 rfl) ?_
  refine lv_sipush (v := 2001) hx hb dX8_init_41 (by decide +kernel) ?_
  refine va_newa (atype := .int) hx hb w3_ (ty := .int) rfl hK hP hD hS hA (n := 2001) (N' := 2001) (a0 := (2001, .inl (fun _ => 0))) (fun cA => zzi cA 2001) (by decide +kernel) (by decide +kernel) (by decide +kernel) (by decide +kernel) (by decide +kernel) dX8_init_44 (fun hn5 kn5 H hK hP hD hS => ?_)
  have hP : va_P (dC, dI) vwCl [(h0, .inr (8, [.null, .null, .ref hn1, .ref hn2, .ref hn3, .ref hn4, .int 0, .null, .null, .null, .int 0, .int 0, .int 0])), (hn1, .inl (kn1, 2000, .inl (fun _ => 0))), (hn2, .inl (kn2, 2000, .inl (fun _ => 0))), (hn3, .inl (kn3, 2000, .inl (fun _ => 0))), (hn4, .inl (kn4, 2000, .inl (fun _ => 0))), (hn5, .inl (kn5, 2001, .inl (fun _ => 0)))] H := hP
  have hD : va_D A [(h0, .inr (8, [.null, .null, .ref hn1, .ref hn2, .ref hn3, .ref hn4, .int 0, .null, .null, .null, .int 0, .int 0, .int 0])), (hn1, .inl (kn1, 2000, .inl (fun _ => 0))), (hn2, .inl (kn2, 2000, .inl (fun _ => 0))), (hn3, .inl (kn3, 2000, .inl (fun _ => 0))), (hn4, .inl (kn4, 2000, .inl (fun _ => 0))), (hn5, .inl (kn5, 2001, .inl (fun _ => 0)))] := hD
  have hK : va_K (dC, dI) vwCl [(kn1, .int), (kn2, .int), (kn3, .int), (kn4, .int), (kn5, .int)] s := hK
  refine W.widen (k := 5) (n := 10001) (by decide +kernel) (by decide +kernel) ?_
  refine va_putF (D := (dC, dI)) (ci := 8) (v := .ref hn5) (ty := .array .int) (C := RX8) (T := TX8) (N := 13) hx hb hts inlX8 tyX8 tyX8_ok nmX8 hown hK hP hD hS 0 rfl rfl 7 (by decide) w8_ (fun _ h9 => h9) rfl hin rfl (by decide +kernel) rfl rfl (Nat.le_of_ble_eq_true rfl) dX8_init_46 (fun H locs hP hD hS => ?_)
  have hP : va_P (dC, dI) vwCl [(h0, .inr (8, [.null, .null, .ref hn1, .ref hn2, .ref hn3, .ref hn4, .int 0, .ref hn5, .null, .null, .int 0, .int 0, .int 0])), (hn1, .inl (kn1, 2000, .inl (fun _ => 0))), (hn2, .inl (kn2, 2000, .inl (fun _ => 0))), (hn3, .inl (kn3, 2000, .inl (fun _ => 0))), (hn4, .inl (kn4, 2000, .inl (fun _ => 0))), (hn5, .inl (kn5, 2001, .inl (fun _ => 0)))] H := hP
  have hD : va_D A [(h0, .inr (8, [.null, .null, .ref hn1, .ref hn2, .ref hn3, .ref hn4, .int 0, .ref hn5, .null, .null, .int 0, .int 0, .int 0])), (hn1, .inl (kn1, 2000, .inl (fun _ => 0))), (hn2, .inl (kn2, 2000, .inl (fun _ => 0))), (hn3, .inl (kn3, 2000, .inl (fun _ => 0))), (hn4, .inl (kn4, 2000, .inl (fun _ => 0))), (hn5, .inl (kn5, 2001, .inl (fun _ => 0)))] := hD
  refine lv_aload_n hx hb dX8_init_49 rfl (lv_at hl 0 rfl) ?_
  refine lv_sipush (v := 2001) hx hb dX8_init_50 (by decide +kernel) ?_
  refine va_newa (atype := .int) hx hb w3_ (ty := .int) rfl hK hP hD hS hA (n := 2001) (N' := 2001) (a0 := (2001, .inl (fun _ => 0))) (fun cA => zzi cA 2001) (by decide +kernel) (by decide +kernel) (by decide +kernel) (by decide +kernel) (by decide +kernel) dX8_init_53 (fun hn6 kn6 H hK hP hD hS => ?_)
  have hP : va_P (dC, dI) vwCl [(h0, .inr (8, [.null, .null, .ref hn1, .ref hn2, .ref hn3, .ref hn4, .int 0, .ref hn5, .null, .null, .int 0, .int 0, .int 0])), (hn1, .inl (kn1, 2000, .inl (fun _ => 0))), (hn2, .inl (kn2, 2000, .inl (fun _ => 0))), (hn3, .inl (kn3, 2000, .inl (fun _ => 0))), (hn4, .inl (kn4, 2000, .inl (fun _ => 0))), (hn5, .inl (kn5, 2001, .inl (fun _ => 0))), (hn6, .inl (kn6, 2001, .inl (fun _ => 0)))] H := hP
  have hD : va_D A [(h0, .inr (8, [.null, .null, .ref hn1, .ref hn2, .ref hn3, .ref hn4, .int 0, .ref hn5, .null, .null, .int 0, .int 0, .int 0])), (hn1, .inl (kn1, 2000, .inl (fun _ => 0))), (hn2, .inl (kn2, 2000, .inl (fun _ => 0))), (hn3, .inl (kn3, 2000, .inl (fun _ => 0))), (hn4, .inl (kn4, 2000, .inl (fun _ => 0))), (hn5, .inl (kn5, 2001, .inl (fun _ => 0))), (hn6, .inl (kn6, 2001, .inl (fun _ => 0)))] := hD
  have hK : va_K (dC, dI) vwCl [(kn1, .int), (kn2, .int), (kn3, .int), (kn4, .int), (kn5, .int), (kn6, .int)] s := hK
  refine W.widen (k := 6) (n := 12002) (by decide +kernel) (by decide +kernel) ?_
  refine va_putF (D := (dC, dI)) (ci := 8) (v := .ref hn6) (ty := .array .int) (C := RX8) (T := TX8) (N := 13) hx hb hts inlX8 tyX8 tyX8_ok nmX8 hown hK hP hD hS 0 rfl rfl 8 (by decide) w9_ (fun _ h9 => h9) rfl hin rfl (by decide +kernel) rfl rfl (Nat.le_of_ble_eq_true rfl) dX8_init_55 (fun H locs hP hD hS => ?_)
  have hP : va_P (dC, dI) vwCl [(h0, .inr (8, [.null, .null, .ref hn1, .ref hn2, .ref hn3, .ref hn4, .int 0, .ref hn5, .ref hn6, .null, .int 0, .int 0, .int 0])), (hn1, .inl (kn1, 2000, .inl (fun _ => 0))), (hn2, .inl (kn2, 2000, .inl (fun _ => 0))), (hn3, .inl (kn3, 2000, .inl (fun _ => 0))), (hn4, .inl (kn4, 2000, .inl (fun _ => 0))), (hn5, .inl (kn5, 2001, .inl (fun _ => 0))), (hn6, .inl (kn6, 2001, .inl (fun _ => 0)))] H := hP
  have hD : va_D A [(h0, .inr (8, [.null, .null, .ref hn1, .ref hn2, .ref hn3, .ref hn4, .int 0, .ref hn5, .ref hn6, .null, .int 0, .int 0, .int 0])), (hn1, .inl (kn1, 2000, .inl (fun _ => 0))), (hn2, .inl (kn2, 2000, .inl (fun _ => 0))), (hn3, .inl (kn3, 2000, .inl (fun _ => 0))), (hn4, .inl (kn4, 2000, .inl (fun _ => 0))), (hn5, .inl (kn5, 2001, .inl (fun _ => 0))), (hn6, .inl (kn6, 2001, .inl (fun _ => 0)))] := hD
  refine lv_aload_n hx hb dX8_init_58 rfl (lv_at hl 0 rfl) ?_
  refine lv_sipush (v := 16008) hx hb dX8_init_59 (by decide +kernel) ?_
  refine va_newa (atype := .int) hx hb w3_ (ty := .int) rfl hK hP hD hS hA (n := 16008) (N' := 16008) (a0 := (16008, .inl (fun _ => 0))) (fun cA => zzi cA 16008) (by decide +kernel) (by decide +kernel) (by decide +kernel) (by decide +kernel) (by decide +kernel) dX8_init_62 (fun hn7 kn7 H hK hP hD hS => ?_)
  have hP : va_P (dC, dI) vwCl [(h0, .inr (8, [.null, .null, .ref hn1, .ref hn2, .ref hn3, .ref hn4, .int 0, .ref hn5, .ref hn6, .null, .int 0, .int 0, .int 0])), (hn1, .inl (kn1, 2000, .inl (fun _ => 0))), (hn2, .inl (kn2, 2000, .inl (fun _ => 0))), (hn3, .inl (kn3, 2000, .inl (fun _ => 0))), (hn4, .inl (kn4, 2000, .inl (fun _ => 0))), (hn5, .inl (kn5, 2001, .inl (fun _ => 0))), (hn6, .inl (kn6, 2001, .inl (fun _ => 0))), (hn7, .inl (kn7, 16008, .inl (fun _ => 0)))] H := hP
  have hD : va_D A [(h0, .inr (8, [.null, .null, .ref hn1, .ref hn2, .ref hn3, .ref hn4, .int 0, .ref hn5, .ref hn6, .null, .int 0, .int 0, .int 0])), (hn1, .inl (kn1, 2000, .inl (fun _ => 0))), (hn2, .inl (kn2, 2000, .inl (fun _ => 0))), (hn3, .inl (kn3, 2000, .inl (fun _ => 0))), (hn4, .inl (kn4, 2000, .inl (fun _ => 0))), (hn5, .inl (kn5, 2001, .inl (fun _ => 0))), (hn6, .inl (kn6, 2001, .inl (fun _ => 0))), (hn7, .inl (kn7, 16008, .inl (fun _ => 0)))] := hD
  have hK : va_K (dC, dI) vwCl [(kn1, .int), (kn2, .int), (kn3, .int), (kn4, .int), (kn5, .int), (kn6, .int), (kn7, .int)] s := hK
  refine W.widen (k := 7) (n := 28010) (by decide +kernel) (by decide +kernel) ?_
  refine va_putF (D := (dC, dI)) (ci := 8) (v := .ref hn7) (ty := .array .int) (C := RX8) (T := TX8) (N := 13) hx hb hts inlX8 tyX8 tyX8_ok nmX8 hown hK hP hD hS 0 rfl rfl 9 (by decide) w10_ (fun _ h9 => h9) rfl hin rfl (by decide +kernel) rfl rfl (Nat.le_of_ble_eq_true rfl) dX8_init_64 (fun H locs hP hD hS => ?_)
  have hP : va_P (dC, dI) vwCl [(h0, .inr (8, [.null, .null, .ref hn1, .ref hn2, .ref hn3, .ref hn4, .int 0, .ref hn5, .ref hn6, .ref hn7, .int 0, .int 0, .int 0])), (hn1, .inl (kn1, 2000, .inl (fun _ => 0))), (hn2, .inl (kn2, 2000, .inl (fun _ => 0))), (hn3, .inl (kn3, 2000, .inl (fun _ => 0))), (hn4, .inl (kn4, 2000, .inl (fun _ => 0))), (hn5, .inl (kn5, 2001, .inl (fun _ => 0))), (hn6, .inl (kn6, 2001, .inl (fun _ => 0))), (hn7, .inl (kn7, 16008, .inl (fun _ => 0)))] H := hP
  have hD : va_D A [(h0, .inr (8, [.null, .null, .ref hn1, .ref hn2, .ref hn3, .ref hn4, .int 0, .ref hn5, .ref hn6, .ref hn7, .int 0, .int 0, .int 0])), (hn1, .inl (kn1, 2000, .inl (fun _ => 0))), (hn2, .inl (kn2, 2000, .inl (fun _ => 0))), (hn3, .inl (kn3, 2000, .inl (fun _ => 0))), (hn4, .inl (kn4, 2000, .inl (fun _ => 0))), (hn5, .inl (kn5, 2001, .inl (fun _ => 0))), (hn6, .inl (kn6, 2001, .inl (fun _ => 0))), (hn7, .inl (kn7, 16008, .inl (fun _ => 0)))] := hD
  refine lv_aload_n hx hb dX8_init_67 rfl (lv_at hl 0 rfl) ?_
  refine lv_aload_n hx hb dX8_init_68 rfl (lv_at hl 1 rfl) ?_
  refine va_putF (D := (dC, dI)) (ci := 8) (v := .ref g0) (ty := .object "StackPrograms$Program") (C := RX8) (T := TX8) (N := 13) hx hb hts inlX8 tyX8 tyX8_ok nmX8 hown hK hP hD hS 0 rfl rfl 0 (by decide) w11_ (fun _ h9 => h9) rfl hin rfl (by decide +kernel) rfl rfl (Nat.le_of_ble_eq_true rfl) dX8_init_69 (fun H locs hP hD hS => ?_)
  have hP : va_P (dC, dI) vwCl [(h0, .inr (8, [.ref g0, .null, .ref hn1, .ref hn2, .ref hn3, .ref hn4, .int 0, .ref hn5, .ref hn6, .ref hn7, .int 0, .int 0, .int 0])), (hn1, .inl (kn1, 2000, .inl (fun _ => 0))), (hn2, .inl (kn2, 2000, .inl (fun _ => 0))), (hn3, .inl (kn3, 2000, .inl (fun _ => 0))), (hn4, .inl (kn4, 2000, .inl (fun _ => 0))), (hn5, .inl (kn5, 2001, .inl (fun _ => 0))), (hn6, .inl (kn6, 2001, .inl (fun _ => 0))), (hn7, .inl (kn7, 16008, .inl (fun _ => 0)))] H := hP
  have hD : va_D A [(h0, .inr (8, [.ref g0, .null, .ref hn1, .ref hn2, .ref hn3, .ref hn4, .int 0, .ref hn5, .ref hn6, .ref hn7, .int 0, .int 0, .int 0])), (hn1, .inl (kn1, 2000, .inl (fun _ => 0))), (hn2, .inl (kn2, 2000, .inl (fun _ => 0))), (hn3, .inl (kn3, 2000, .inl (fun _ => 0))), (hn4, .inl (kn4, 2000, .inl (fun _ => 0))), (hn5, .inl (kn5, 2001, .inl (fun _ => 0))), (hn6, .inl (kn6, 2001, .inl (fun _ => 0))), (hn7, .inl (kn7, 16008, .inl (fun _ => 0)))] := hD
  refine lv_aload_n hx hb dX8_init_72 rfl (lv_at hl 0 rfl) ?_
  refine lv_aload_n hx hb dX8_init_73 rfl (lv_at hl 2 rfl) ?_
  refine va_putF (D := (dC, dI)) (ci := 8) (v := .ref g1) (ty := .object "StackPrograms$Checker") (C := RX8) (T := TX8) (N := 13) hx hb hts inlX8 tyX8 tyX8_ok nmX8 hown hK hP hD hS 0 rfl rfl 1 (by decide) w12_ (fun _ h9 => h9) rfl hin rfl (by decide +kernel) rfl rfl (Nat.le_of_ble_eq_true rfl) dX8_init_74 (fun H locs hP hD hS => ?_)
  have hP : va_P (dC, dI) vwCl [(h0, .inr (8, [.ref g0, .ref g1, .ref hn1, .ref hn2, .ref hn3, .ref hn4, .int 0, .ref hn5, .ref hn6, .ref hn7, .int 0, .int 0, .int 0])), (hn1, .inl (kn1, 2000, .inl (fun _ => 0))), (hn2, .inl (kn2, 2000, .inl (fun _ => 0))), (hn3, .inl (kn3, 2000, .inl (fun _ => 0))), (hn4, .inl (kn4, 2000, .inl (fun _ => 0))), (hn5, .inl (kn5, 2001, .inl (fun _ => 0))), (hn6, .inl (kn6, 2001, .inl (fun _ => 0))), (hn7, .inl (kn7, 16008, .inl (fun _ => 0)))] H := hP
  have hD : va_D A [(h0, .inr (8, [.ref g0, .ref g1, .ref hn1, .ref hn2, .ref hn3, .ref hn4, .int 0, .ref hn5, .ref hn6, .ref hn7, .int 0, .int 0, .int 0])), (hn1, .inl (kn1, 2000, .inl (fun _ => 0))), (hn2, .inl (kn2, 2000, .inl (fun _ => 0))), (hn3, .inl (kn3, 2000, .inl (fun _ => 0))), (hn4, .inl (kn4, 2000, .inl (fun _ => 0))), (hn5, .inl (kn5, 2001, .inl (fun _ => 0))), (hn6, .inl (kn6, 2001, .inl (fun _ => 0))), (hn7, .inl (kn7, 16008, .inl (fun _ => 0)))] := hD
  have hP9 := hP.sub (ws' := [(h0, .inr (8, [.ref g0, .ref g1, .ref hn1, .ref hn2, .ref hn3, .ref hn4, .int 0, .ref hn5, .ref hn6, .ref hn7, .int 0, .int 0, .int 0])), (hn1, .inl (kn1, 2000, .inl (fun _ => 0))), (hn2, .inl (kn2, 2000, .inl (fun _ => 0))), (hn3, .inl (kn3, 2000, .inl (fun _ => 0))), (hn4, .inl (kn4, 2000, .inl (fun _ => 0))), (hn5, .inl (kn5, 2001, .inl (fun _ => 0))), (hn6, .inl (kn6, 2001, .inl (fun _ => 0))), (hn7, .inl (kn7, 16008, .inl (fun _ => 0)))]) [0, 1, 2, 3, 4, 5, 6, 7] rfl
  have hD9 := hD.sub (ws' := [(h0, .inr (8, [.ref g0, .ref g1, .ref hn1, .ref hn2, .ref hn3, .ref hn4, .int 0, .ref hn5, .ref hn6, .ref hn7, .int 0, .int 0, .int 0])), (hn1, .inl (kn1, 2000, .inl (fun _ => 0))), (hn2, .inl (kn2, 2000, .inl (fun _ => 0))), (hn3, .inl (kn3, 2000, .inl (fun _ => 0))), (hn4, .inl (kn4, 2000, .inl (fun _ => 0))), (hn5, .inl (kn5, 2001, .inl (fun _ => 0))), (hn6, .inl (kn6, 2001, .inl (fun _ => 0))), (hn7, .inl (kn7, 16008, .inl (fun _ => 0)))]) [0, 1, 2, 3, 4, 5, 6, 7] (by decide) rfl
  exact W.vret hx hb hr (fun t ht hW => ⟨⟨([hn1, hn2, hn3, hn4, hn5, hn6, hn7], [kn1, kn2, kn3, kn4, kn5, kn6, kn7]), rfl, trivial, by rw [ht]; exact hP9, va_K.moved hW.alike hK, hD9⟩, hS.F ht⟩) hS.2.2 dX8_init_77
set_option maxHeartbeats 4000000 in
set_option maxRecDepth 100000 in
theorem mX10_init (l : Launch) (dC : Nat → ClassId) (dI : Nat → Nat → Nat) (h0 : Nat) (sz : Nat) (base : Nat × Nat × Nat) : Met l yX10_init (.code yX10_init cX10_init 1 none :: wsL_law) ({ frames := 2, cells := 31, slots := 1774, locals := 42 }) (cPre (dC, dI) vwCl [.ref h0] sz base [(h0, .inr (10, [.null, .null, .null, .null, .null, .null, .null, .null, .null, .null, .int 0, .int 0]))] []) (va_Qv (fun _ => True) (fun (u : List Nat × List ClassId) t => va_P (dC, dI) vwCl [(h0, .inr (10, [.ref (u.1.getD 0 0), .ref (u.1.getD 9 0), .ref (u.1.getD 11 0), .ref (u.1.getD 26 0), .null, .null, .null, .null, .null, .null, .int 0, .int 0])), ((u.1.getD 0 0), .inr (6, [.ref (u.1.getD 1 0), .ref (u.1.getD 2 0), .ref (u.1.getD 3 0), .ref (u.1.getD 4 0), .ref (u.1.getD 5 0), .ref (u.1.getD 6 0), .int 0, .ref (u.1.getD 7 0), .int 0, .ref (u.1.getD 8 0), .int 0, .int 0, .int 0, .int 0])), ((u.1.getD 1 0), .inl ((u.2.getD 0 0), 48, .inl (fun _ => 0))), ((u.1.getD 2 0), .inl ((u.2.getD 1 0), 48, .inl (fun _ => 0))), ((u.1.getD 3 0), .inl ((u.2.getD 2 0), 48, .inl (fun _ => 0))), ((u.1.getD 4 0), .inl ((u.2.getD 3 0), 48, .inl (fun _ => 0))), ((u.1.getD 5 0), .inl ((u.2.getD 4 0), 48, .inl (fun _ => 0))), ((u.1.getD 6 0), .inl ((u.2.getD 5 0), 48, .inl (fun _ => 0))), ((u.1.getD 7 0), .inl ((u.2.getD 6 0), 192, .inl (fun _ => 0))), ((u.1.getD 8 0), .inl ((u.2.getD 7 0), 30, .inl (fun _ => 0))), ((u.1.getD 9 0), .inr (4, [.int 0, .int 0, .long 0, .int 0, .int 0, .ref (u.1.getD 10 0), .int 0, .int 0])), ((u.1.getD 10 0), .inl ((u.2.getD 8 0), 600, .inl (fun _ => 0))), ((u.1.getD 11 0), .inr (3, [.int 0, .int 0, .int 0, .int 0, .ref (u.1.getD 12 0), .ref (u.1.getD 13 0), .ref (u.1.getD 14 0), .ref (u.1.getD 15 0), .ref (u.1.getD 16 0), .ref (u.1.getD 17 0), .ref (u.1.getD 18 0), .ref (u.1.getD 19 0), .ref (u.1.getD 20 0), .ref (u.1.getD 21 0), .ref (u.1.getD 22 0), .ref (u.1.getD 23 0), .ref (u.1.getD 24 0), .ref (u.1.getD 25 0)])), ((u.1.getD 12 0), .inl ((u.2.getD 9 0), 6, .inl (fun _ => 0))), ((u.1.getD 13 0), .inl ((u.2.getD 10 0), 40, .inl (fun _ => 0))), ((u.1.getD 14 0), .inl ((u.2.getD 11 0), 40, .inl (fun _ => 0))), ((u.1.getD 15 0), .inl ((u.2.getD 12 0), 40, .inl (fun _ => 0))), ((u.1.getD 16 0), .inl ((u.2.getD 13 0), 40, .inr (.inl (fun _ => 0)))), ((u.1.getD 17 0), .inl ((u.2.getD 14 0), 40, .inl (fun _ => 0))), ((u.1.getD 18 0), .inl ((u.2.getD 15 0), 40, .inl (fun _ => 0))), ((u.1.getD 19 0), .inl ((u.2.getD 16 0), 40, .inl (fun _ => 0))), ((u.1.getD 20 0), .inl ((u.2.getD 17 0), 40, .inl (fun _ => 0))), ((u.1.getD 21 0), .inl ((u.2.getD 18 0), 40, .inl (fun _ => 0))), ((u.1.getD 22 0), .inl ((u.2.getD 19 0), 40, .inl (fun _ => 0))), ((u.1.getD 23 0), .inl ((u.2.getD 20 0), 40, .inl (fun _ => 0))), ((u.1.getD 24 0), .inl ((u.2.getD 21 0), 40, .inl (fun _ => 0))), ((u.1.getD 25 0), .inl ((u.2.getD 22 0), 40, .inl (fun _ => 0))), ((u.1.getD 26 0), .inr (2, [.ref (u.1.getD 9 0), .ref (u.1.getD 11 0), .ref (u.1.getD 27 0), .int 0, .ref (u.1.getD 28 0), .ref (u.1.getD 29 0), .ref (u.1.getD 30 0)])), ((u.1.getD 27 0), .inl ((u.2.getD 23 0), 5, .inr (.inl (fun _ => 0)))), ((u.1.getD 28 0), .inl ((u.2.getD 24 0), 6, .inr (.inl (fun _ => 0)))), ((u.1.getD 29 0), .inl ((u.2.getD 25 0), 40, .inr (.inl (fun _ => 0)))), ((u.1.getD 30 0), .inl ((u.2.getD 26 0), 40, .inl (fun _ => 0)))] t.heap ∧ va_K (dC, dI) vwCl [((u.2.getD 0 0), .int), ((u.2.getD 1 0), .int), ((u.2.getD 2 0), .int), ((u.2.getD 3 0), .int), ((u.2.getD 4 0), .int), ((u.2.getD 5 0), .int), ((u.2.getD 6 0), .int), ((u.2.getD 7 0), .int), ((u.2.getD 8 0), .byte), ((u.2.getD 9 0), .int), ((u.2.getD 10 0), .int), ((u.2.getD 11 0), .int), ((u.2.getD 12 0), .int), ((u.2.getD 13 0), .long), ((u.2.getD 14 0), .int), ((u.2.getD 15 0), .int), ((u.2.getD 16 0), .int), ((u.2.getD 17 0), .int), ((u.2.getD 18 0), .int), ((u.2.getD 19 0), .int), ((u.2.getD 20 0), .int), ((u.2.getD 21 0), .int), ((u.2.getD 22 0), .int), ((u.2.getD 23 0), .long), ((u.2.getD 24 0), .long), ((u.2.getD 25 0), .long), ((u.2.getD 26 0), .int)] t ∧ va_D (va_A [(h0, .inr (10, [.null, .null, .null, .null, .null, .null, .null, .null, .null, .null, .int 0, .int 0]))] sz) [(h0, .inr (10, [.ref (u.1.getD 0 0), .ref (u.1.getD 9 0), .ref (u.1.getD 11 0), .ref (u.1.getD 26 0), .null, .null, .null, .null, .null, .null, .int 0, .int 0])), ((u.1.getD 0 0), .inr (6, [.ref (u.1.getD 1 0), .ref (u.1.getD 2 0), .ref (u.1.getD 3 0), .ref (u.1.getD 4 0), .ref (u.1.getD 5 0), .ref (u.1.getD 6 0), .int 0, .ref (u.1.getD 7 0), .int 0, .ref (u.1.getD 8 0), .int 0, .int 0, .int 0, .int 0])), ((u.1.getD 1 0), .inl ((u.2.getD 0 0), 48, .inl (fun _ => 0))), ((u.1.getD 2 0), .inl ((u.2.getD 1 0), 48, .inl (fun _ => 0))), ((u.1.getD 3 0), .inl ((u.2.getD 2 0), 48, .inl (fun _ => 0))), ((u.1.getD 4 0), .inl ((u.2.getD 3 0), 48, .inl (fun _ => 0))), ((u.1.getD 5 0), .inl ((u.2.getD 4 0), 48, .inl (fun _ => 0))), ((u.1.getD 6 0), .inl ((u.2.getD 5 0), 48, .inl (fun _ => 0))), ((u.1.getD 7 0), .inl ((u.2.getD 6 0), 192, .inl (fun _ => 0))), ((u.1.getD 8 0), .inl ((u.2.getD 7 0), 30, .inl (fun _ => 0))), ((u.1.getD 9 0), .inr (4, [.int 0, .int 0, .long 0, .int 0, .int 0, .ref (u.1.getD 10 0), .int 0, .int 0])), ((u.1.getD 10 0), .inl ((u.2.getD 8 0), 600, .inl (fun _ => 0))), ((u.1.getD 11 0), .inr (3, [.int 0, .int 0, .int 0, .int 0, .ref (u.1.getD 12 0), .ref (u.1.getD 13 0), .ref (u.1.getD 14 0), .ref (u.1.getD 15 0), .ref (u.1.getD 16 0), .ref (u.1.getD 17 0), .ref (u.1.getD 18 0), .ref (u.1.getD 19 0), .ref (u.1.getD 20 0), .ref (u.1.getD 21 0), .ref (u.1.getD 22 0), .ref (u.1.getD 23 0), .ref (u.1.getD 24 0), .ref (u.1.getD 25 0)])), ((u.1.getD 12 0), .inl ((u.2.getD 9 0), 6, .inl (fun _ => 0))), ((u.1.getD 13 0), .inl ((u.2.getD 10 0), 40, .inl (fun _ => 0))), ((u.1.getD 14 0), .inl ((u.2.getD 11 0), 40, .inl (fun _ => 0))), ((u.1.getD 15 0), .inl ((u.2.getD 12 0), 40, .inl (fun _ => 0))), ((u.1.getD 16 0), .inl ((u.2.getD 13 0), 40, .inr (.inl (fun _ => 0)))), ((u.1.getD 17 0), .inl ((u.2.getD 14 0), 40, .inl (fun _ => 0))), ((u.1.getD 18 0), .inl ((u.2.getD 15 0), 40, .inl (fun _ => 0))), ((u.1.getD 19 0), .inl ((u.2.getD 16 0), 40, .inl (fun _ => 0))), ((u.1.getD 20 0), .inl ((u.2.getD 17 0), 40, .inl (fun _ => 0))), ((u.1.getD 21 0), .inl ((u.2.getD 18 0), 40, .inl (fun _ => 0))), ((u.1.getD 22 0), .inl ((u.2.getD 19 0), 40, .inl (fun _ => 0))), ((u.1.getD 23 0), .inl ((u.2.getD 20 0), 40, .inl (fun _ => 0))), ((u.1.getD 24 0), .inl ((u.2.getD 21 0), 40, .inl (fun _ => 0))), ((u.1.getD 25 0), .inl ((u.2.getD 22 0), 40, .inl (fun _ => 0))), ((u.1.getD 26 0), .inr (2, [.ref (u.1.getD 9 0), .ref (u.1.getD 11 0), .ref (u.1.getD 27 0), .int 0, .ref (u.1.getD 28 0), .ref (u.1.getD 29 0), .ref (u.1.getD 30 0)])), ((u.1.getD 27 0), .inl ((u.2.getD 23 0), 5, .inr (.inl (fun _ => 0)))), ((u.1.getD 28 0), .inl ((u.2.getD 24 0), 6, .inr (.inl (fun _ => 0)))), ((u.1.getD 29 0), .inl ((u.2.getD 25 0), 40, .inr (.inl (fun _ => 0)))), ((u.1.getD 30 0), .inl ((u.2.getD 26 0), 40, .inl (fun _ => 0)))]) (va_A [(h0, .inr (10, [.null, .null, .null, .null, .null, .null, .null, .null, .null, .null, .int 0, .int 0]))] sz)) 31 1774 (va_A [(h0, .inr (10, [.null, .null, .null, .null, .null, .null, .null, .null, .null, .null, .int 0, .int 0]))] sz) := by
  refine Met.ofW (cc := cX10_init) (maxL := 1) (ret := none) (by decide) rfl ?_
  intro p e s m args below meth c s₁ B hml hv
  obtain ⟨rfl, hsz, hP, hK, hD0, hE⟩ := hv
  have hx := B.exec
  have hb := B.bytes
  have hr := B.returns
  have hts : ∀ w ∈ wsL_law, _ := fun w h => atoms_spec (ws := .code yX10_init cX10_init 1 none :: wsL_law) B.pre w (List.mem_cons_of_mem _ h)
  have hown : s.vm.findClass RX10 = some m.cls := findClass_of_methodNamed B.named
  have hlocks := B.notSynchronized
  have hin : meth.name = "<init>" := (name_of_methodNamed B.named B.method).1
  have w0_ := hts _ q10
  have w1_ := hts _ q11
  have w2_ := hts _ q12
  have w3_ := hts _ q13
  have w4_ := hts _ q14
  have w5_ := hts _ q15
  have w6_ := hts _ q29
  have w7_ := hts _ q16
  have w8_ := hts _ q17
  have w9_ := hts _ q18
  have w10_ := hts _ q19
  have w11_ := hts _ q41
  have w12_ := hts _ q20
  have w13_ := hts _ q21
  have w14_ := hts _ q22
  have w15_ := hts _ q23
  have w16_ := hts _ q46
  have w17_ := hts _ q24
  have w18_ := hts _ q25
  have w19_ := hts _ q26
  have w20_ := hts _ q27
  have w21_ := hts _ q64
  have w22_ := hts _ q65
  have w23_ := hts _ q28
  subst hsz
  have hD := hD0.self (sz := s.heap.size)
  generalize hAe : va_A [(h0, .inr (10, [.null, .null, .null, .null, .null, .null, .null, .null, .null, .null, .int 0, .int 0]))] s.heap.size = A at hD ⊢
  have hA : ∀ q : Nat, s.heap.size ≤ q → A q := fun q h => by rw [← hAe]; exact Or.inr h
  have hAB : ∀ q : Nat, A q → base.1 ≤ q := fun q h => by rw [← hAe] at h; exact h.elim (fun ⟨k, e, hk⟩ => hD0.2 k _ hk) (fun hk => Nat.le_trans hE.1 hk)
  have hS : va_S A s.heap s.heap [] := va_S.rf
  have hl := lv_entry ([.ref h0]) (n := 1) (Nat.le_of_ble_eq_true rfl)
  rw [lg_entry_eq]
  generalize (lg_sl ([.ref h0]) ++ List.replicate (1 - (lg_sl ([.ref h0])).length) Slot.unset).toArray = ls at hl ⊢
  have hl : lv_has ls 1 [(0, .ref h0)] := hl
  have hP : va_P (dC, dI) vwCl [(h0, .inr (10, [.null, .null, .null, .null, .null, .null, .null, .null, .null, .null, .int 0, .int 0]))] s.heap := hP
  have hK : va_K (dC, dI) vwCl [] s := hK
  obtain ⟨H, hH⟩ : ∃ H, H = s.heap := ⟨_, rfl⟩
  have hS : va_S A s.heap H [] := by rw [hH]; exact hS
  rw [← hH] at hP ⊢
  generalize ([] : List Loc) = locs at hS ⊢
  refine lv_aload_n hx hb dX10_init_0 rfl (lv_at hl 0 rfl) ?_
  refine W.objInit hx hb hown w0_ w1_ w2_ rfl (by rw [hml]; exact hl.1) rfl dX10_init_1 (Nat.le_of_ble_eq_true rfl) (Nat.le_of_ble_eq_true rfl) ?_
  refine W.eq (g2 := F0 m 4 ls []) rfl ?_
  refine lv_aload_n hx hb dX10_init_4 rfl (lv_at hl 0 rfl) ?_
  refine va_new (ci := 6) (fs := [.null, .null, .null, .null, .null, .null, .int 0, .null, .int 0, .null, .int 0, .int 0, .int 0, .int 0]) (C := RX6) (T := TX6) (N := 14) hx hb hts inlX6 tyX6 tyX6_ok hown w3_ w4_ w5_ hK hP hD hS hA rfl (by decide +kernel) (by decide +kernel) (by decide +kernel) dX10_init_5 (fun hn1 H hP hD hS => ?_)
  have hP : va_P (dC, dI) vwCl [(h0, .inr (10, [.null, .null, .null, .null, .null, .null, .null, .null, .null, .null, .int 0, .int 0])), (hn1, .inr (6, [.null, .null, .null, .null, .null, .null, .int 0, .null, .int 0, .null, .int 0, .int 0, .int 0, .int 0]))] H := hP
  have hD : va_D A [(h0, .inr (10, [.null, .null, .null, .null, .null, .null, .null, .null, .null, .null, .int 0, .int 0])), (hn1, .inr (6, [.null, .null, .null, .null, .null, .null, .int 0, .null, .int 0, .null, .int 0, .int 0, .int 0, .int 0]))] := hD
  refine W.widen (k := 1) (n := 14) (by decide +kernel) (by decide +kernel) ?_
  refine lv_dup hx hb dX10_init_8 rfl ?_
  refine kIN (As := []) (rest := [.ref hn1, .ref h0]) ⟨hx, hb, hml, hown, hts⟩ (mX6_init l dC dI hn1 H.size base) ⟨va_cnB 0 hts (gT q30) rfl rfl rfl hE.2.1.2.2.1 w5_ (by decide +kernel) ⟨(by decide +kernel), (by decide +kernel)⟩, rfl, w6_⟩ hK hP hD hS hA hE hAB [1] [0] [] (wr := [(h0, .inr (10, [.null, .null, .null, .null, .null, .null, .null, .null, .null, .null, .int 0, .int 0]))]) rfl rfl (by decide) (by decide) (by decide) rfl rfl hl.1 rfl (Nat.le_of_ble_eq_true rfl) dX10_init_9 ⟨(by decide +kernel), (by decide +kernel)⟩ (fun u2 H locs _ hK hP hD hS => ?_)
  obtain ⟨hn2_0, ehn2_0⟩ : ∃ z, z = u2.1.getD 0 0 := ⟨_, rfl⟩
  obtain ⟨hn2_1, ehn2_1⟩ : ∃ z, z = u2.1.getD 1 0 := ⟨_, rfl⟩
  obtain ⟨hn2_2, ehn2_2⟩ : ∃ z, z = u2.1.getD 2 0 := ⟨_, rfl⟩
  obtain ⟨hn2_3, ehn2_3⟩ : ∃ z, z = u2.1.getD 3 0 := ⟨_, rfl⟩
  obtain ⟨hn2_4, ehn2_4⟩ : ∃ z, z = u2.1.getD 4 0 := ⟨_, rfl⟩
  obtain ⟨hn2_5, ehn2_5⟩ : ∃ z, z = u2.1.getD 5 0 := ⟨_, rfl⟩
  obtain ⟨hn2_6, ehn2_6⟩ : ∃ z, z = u2.1.getD 6 0 := ⟨_, rfl⟩
  obtain ⟨hn2_7, ehn2_7⟩ : ∃ z, z = u2.1.getD 7 0 := ⟨_, rfl⟩
  obtain ⟨kn2_0, ekn2_0⟩ : ∃ z, z = u2.2.getD 0 0 := ⟨_, rfl⟩
  obtain ⟨kn2_1, ekn2_1⟩ : ∃ z, z = u2.2.getD 1 0 := ⟨_, rfl⟩
  obtain ⟨kn2_2, ekn2_2⟩ : ∃ z, z = u2.2.getD 2 0 := ⟨_, rfl⟩
  obtain ⟨kn2_3, ekn2_3⟩ : ∃ z, z = u2.2.getD 3 0 := ⟨_, rfl⟩
  obtain ⟨kn2_4, ekn2_4⟩ : ∃ z, z = u2.2.getD 4 0 := ⟨_, rfl⟩
  obtain ⟨kn2_5, ekn2_5⟩ : ∃ z, z = u2.2.getD 5 0 := ⟨_, rfl⟩
  obtain ⟨kn2_6, ekn2_6⟩ : ∃ z, z = u2.2.getD 6 0 := ⟨_, rfl⟩
  obtain ⟨kn2_7, ekn2_7⟩ : ∃ z, z = u2.2.getD 7 0 := ⟨_, rfl⟩
  have hP : va_P (dC, dI) vwCl [(h0, .inr (10, [.null, .null, .null, .null, .null, .null, .null, .null, .null, .null, .int 0, .int 0])), (hn1, .inr (6, [.ref hn2_0, .ref hn2_1, .ref hn2_2, .ref hn2_3, .ref hn2_4, .ref hn2_5, .int 0, .ref hn2_6, .int 0, .ref hn2_7, .int 0, .int 0, .int 0, .int 0])), (hn2_0, .inl (kn2_0, 48, .inl (fun _ => 0))), (hn2_1, .inl (kn2_1, 48, .inl (fun _ => 0))), (hn2_2, .inl (kn2_2, 48, .inl (fun _ => 0))), (hn2_3, .inl (kn2_3, 48, .inl (fun _ => 0))), (hn2_4, .inl (kn2_4, 48, .inl (fun _ => 0))), (hn2_5, .inl (kn2_5, 48, .inl (fun _ => 0))), (hn2_6, .inl (kn2_6, 192, .inl (fun _ => 0))), (hn2_7, .inl (kn2_7, 30, .inl (fun _ => 0)))] H := by simp only [ehn2_0, ehn2_1, ehn2_2, ehn2_3, ehn2_4, ehn2_5, ehn2_6, ehn2_7, ekn2_0, ekn2_1, ekn2_2, ekn2_3, ekn2_4, ekn2_5, ekn2_6, ekn2_7]; exact hP
  have hD : va_D A [(h0, .inr (10, [.null, .null, .null, .null, .null, .null, .null, .null, .null, .null, .int 0, .int 0])), (hn1, .inr (6, [.ref hn2_0, .ref hn2_1, .ref hn2_2, .ref hn2_3, .ref hn2_4, .ref hn2_5, .int 0, .ref hn2_6, .int 0, .ref hn2_7, .int 0, .int 0, .int 0, .int 0])), (hn2_0, .inl (kn2_0, 48, .inl (fun _ => 0))), (hn2_1, .inl (kn2_1, 48, .inl (fun _ => 0))), (hn2_2, .inl (kn2_2, 48, .inl (fun _ => 0))), (hn2_3, .inl (kn2_3, 48, .inl (fun _ => 0))), (hn2_4, .inl (kn2_4, 48, .inl (fun _ => 0))), (hn2_5, .inl (kn2_5, 48, .inl (fun _ => 0))), (hn2_6, .inl (kn2_6, 192, .inl (fun _ => 0))), (hn2_7, .inl (kn2_7, 30, .inl (fun _ => 0)))] := by simp only [ehn2_0, ehn2_1, ehn2_2, ehn2_3, ehn2_4, ehn2_5, ehn2_6, ehn2_7, ekn2_0, ekn2_1, ekn2_2, ekn2_3, ekn2_4, ekn2_5, ekn2_6, ekn2_7]; exact hD
  have hK : va_K (dC, dI) vwCl [(kn2_0, .int), (kn2_1, .int), (kn2_2, .int), (kn2_3, .int), (kn2_4, .int), (kn2_5, .int), (kn2_6, .int), (kn2_7, .int)] s := by simp only [ehn2_0, ehn2_1, ehn2_2, ehn2_3, ehn2_4, ehn2_5, ehn2_6, ehn2_7, ekn2_0, ekn2_1, ekn2_2, ekn2_3, ekn2_4, ekn2_5, ekn2_6, ekn2_7]; exact hK
  refine W.widen (k := 9) (n := 524) (by decide +kernel) (by decide +kernel) ?_
  refine va_putF (D := (dC, dI)) (ci := 10) (v := .ref hn1) (ty := .object "StackPrograms$StackSystem") (C := RX10) (T := TX10) (N := 12) hx hb hts inlX10 tyX10 tyX10_ok nmX10 hown hK hP hD hS 0 rfl rfl 0 (by decide) w7_ (fun _ h9 => h9) rfl hin rfl (by decide +kernel) rfl rfl (Nat.le_of_ble_eq_true rfl) dX10_init_12 (fun H locs hP hD hS => ?_)
  have hP : va_P (dC, dI) vwCl [(h0, .inr (10, [.ref hn1, .null, .null, .null, .null, .null, .null, .null, .null, .null, .int 0, .int 0])), (hn1, .inr (6, [.ref hn2_0, .ref hn2_1, .ref hn2_2, .ref hn2_3, .ref hn2_4, .ref hn2_5, .int 0, .ref hn2_6, .int 0, .ref hn2_7, .int 0, .int 0, .int 0, .int 0])), (hn2_0, .inl (kn2_0, 48, .inl (fun _ => 0))), (hn2_1, .inl (kn2_1, 48, .inl (fun _ => 0))), (hn2_2, .inl (kn2_2, 48, .inl (fun _ => 0))), (hn2_3, .inl (kn2_3, 48, .inl (fun _ => 0))), (hn2_4, .inl (kn2_4, 48, .inl (fun _ => 0))), (hn2_5, .inl (kn2_5, 48, .inl (fun _ => 0))), (hn2_6, .inl (kn2_6, 192, .inl (fun _ => 0))), (hn2_7, .inl (kn2_7, 30, .inl (fun _ => 0)))] H := hP
  have hD : va_D A [(h0, .inr (10, [.ref hn1, .null, .null, .null, .null, .null, .null, .null, .null, .null, .int 0, .int 0])), (hn1, .inr (6, [.ref hn2_0, .ref hn2_1, .ref hn2_2, .ref hn2_3, .ref hn2_4, .ref hn2_5, .int 0, .ref hn2_6, .int 0, .ref hn2_7, .int 0, .int 0, .int 0, .int 0])), (hn2_0, .inl (kn2_0, 48, .inl (fun _ => 0))), (hn2_1, .inl (kn2_1, 48, .inl (fun _ => 0))), (hn2_2, .inl (kn2_2, 48, .inl (fun _ => 0))), (hn2_3, .inl (kn2_3, 48, .inl (fun _ => 0))), (hn2_4, .inl (kn2_4, 48, .inl (fun _ => 0))), (hn2_5, .inl (kn2_5, 48, .inl (fun _ => 0))), (hn2_6, .inl (kn2_6, 192, .inl (fun _ => 0))), (hn2_7, .inl (kn2_7, 30, .inl (fun _ => 0)))] := hD
  refine lv_aload_n hx hb dX10_init_15 rfl (lv_at hl 0 rfl) ?_
  refine va_new (ci := 4) (fs := [.int 0, .int 0, .long 0, .int 0, .int 0, .null, .int 0, .int 0]) (C := RX4) (T := TX4) (N := 8) hx hb hts inlX4 tyX4 tyX4_ok hown w8_ w9_ w10_ hK hP hD hS hA rfl (by decide +kernel) (by decide +kernel) (by decide +kernel) dX10_init_16 (fun hn3 H hP hD hS => ?_)
  have hP : va_P (dC, dI) vwCl [(h0, .inr (10, [.ref hn1, .null, .null, .null, .null, .null, .null, .null, .null, .null, .int 0, .int 0])), (hn1, .inr (6, [.ref hn2_0, .ref hn2_1, .ref hn2_2, .ref hn2_3, .ref hn2_4, .ref hn2_5, .int 0, .ref hn2_6, .int 0, .ref hn2_7, .int 0, .int 0, .int 0, .int 0])), (hn2_0, .inl (kn2_0, 48, .inl (fun _ => 0))), (hn2_1, .inl (kn2_1, 48, .inl (fun _ => 0))), (hn2_2, .inl (kn2_2, 48, .inl (fun _ => 0))), (hn2_3, .inl (kn2_3, 48, .inl (fun _ => 0))), (hn2_4, .inl (kn2_4, 48, .inl (fun _ => 0))), (hn2_5, .inl (kn2_5, 48, .inl (fun _ => 0))), (hn2_6, .inl (kn2_6, 192, .inl (fun _ => 0))), (hn2_7, .inl (kn2_7, 30, .inl (fun _ => 0))), (hn3, .inr (4, [.int 0, .int 0, .long 0, .int 0, .int 0, .null, .int 0, .int 0]))] H := hP
  have hD : va_D A [(h0, .inr (10, [.ref hn1, .null, .null, .null, .null, .null, .null, .null, .null, .null, .int 0, .int 0])), (hn1, .inr (6, [.ref hn2_0, .ref hn2_1, .ref hn2_2, .ref hn2_3, .ref hn2_4, .ref hn2_5, .int 0, .ref hn2_6, .int 0, .ref hn2_7, .int 0, .int 0, .int 0, .int 0])), (hn2_0, .inl (kn2_0, 48, .inl (fun _ => 0))), (hn2_1, .inl (kn2_1, 48, .inl (fun _ => 0))), (hn2_2, .inl (kn2_2, 48, .inl (fun _ => 0))), (hn2_3, .inl (kn2_3, 48, .inl (fun _ => 0))), (hn2_4, .inl (kn2_4, 48, .inl (fun _ => 0))), (hn2_5, .inl (kn2_5, 48, .inl (fun _ => 0))), (hn2_6, .inl (kn2_6, 192, .inl (fun _ => 0))), (hn2_7, .inl (kn2_7, 30, .inl (fun _ => 0))), (hn3, .inr (4, [.int 0, .int 0, .long 0, .int 0, .int 0, .null, .int 0, .int 0]))] := hD
  refine W.widen (k := 10) (n := 532) (by decide +kernel) (by decide +kernel) ?_
  refine lv_dup hx hb dX10_init_19 rfl ?_
  refine kIN (As := []) (rest := [.ref hn3, .ref h0]) ⟨hx, hb, hml, hown, hts⟩ (mX4_init l dC dI hn3 H.size base) ⟨va_cnB 0 hts (gT q42) rfl rfl rfl hE.2.1.2.2.2.1 w10_ (by decide +kernel) ⟨(by decide +kernel), (by decide +kernel)⟩, rfl, w11_⟩ hK hP hD hS hA hE hAB [10] [0, 1, 2, 3, 4, 5, 6, 7, 8, 9] [] (wr := [(h0, .inr (10, [.ref hn1, .null, .null, .null, .null, .null, .null, .null, .null, .null, .int 0, .int 0])), (hn1, .inr (6, [.ref hn2_0, .ref hn2_1, .ref hn2_2, .ref hn2_3, .ref hn2_4, .ref hn2_5, .int 0, .ref hn2_6, .int 0, .ref hn2_7, .int 0, .int 0, .int 0, .int 0])), (hn2_0, .inl (kn2_0, 48, .inl (fun _ => 0))), (hn2_1, .inl (kn2_1, 48, .inl (fun _ => 0))), (hn2_2, .inl (kn2_2, 48, .inl (fun _ => 0))), (hn2_3, .inl (kn2_3, 48, .inl (fun _ => 0))), (hn2_4, .inl (kn2_4, 48, .inl (fun _ => 0))), (hn2_5, .inl (kn2_5, 48, .inl (fun _ => 0))), (hn2_6, .inl (kn2_6, 192, .inl (fun _ => 0))), (hn2_7, .inl (kn2_7, 30, .inl (fun _ => 0)))]) rfl rfl (by decide) (by decide) (by decide) rfl rfl hl.1 rfl (Nat.le_of_ble_eq_true rfl) dX10_init_20 ⟨(by decide +kernel), (by decide +kernel)⟩ (fun u4 H locs _ hK hP hD hS => ?_)
  obtain ⟨hn4_0, ehn4_0⟩ : ∃ z, z = u4.1.getD 0 0 := ⟨_, rfl⟩
  obtain ⟨kn4_0, ekn4_0⟩ : ∃ z, z = u4.2.getD 0 0 := ⟨_, rfl⟩
  have hP : va_P (dC, dI) vwCl [(h0, .inr (10, [.ref hn1, .null, .null, .null, .null, .null, .null, .null, .null, .null, .int 0, .int 0])), (hn1, .inr (6, [.ref hn2_0, .ref hn2_1, .ref hn2_2, .ref hn2_3, .ref hn2_4, .ref hn2_5, .int 0, .ref hn2_6, .int 0, .ref hn2_7, .int 0, .int 0, .int 0, .int 0])), (hn2_0, .inl (kn2_0, 48, .inl (fun _ => 0))), (hn2_1, .inl (kn2_1, 48, .inl (fun _ => 0))), (hn2_2, .inl (kn2_2, 48, .inl (fun _ => 0))), (hn2_3, .inl (kn2_3, 48, .inl (fun _ => 0))), (hn2_4, .inl (kn2_4, 48, .inl (fun _ => 0))), (hn2_5, .inl (kn2_5, 48, .inl (fun _ => 0))), (hn2_6, .inl (kn2_6, 192, .inl (fun _ => 0))), (hn2_7, .inl (kn2_7, 30, .inl (fun _ => 0))), (hn3, .inr (4, [.int 0, .int 0, .long 0, .int 0, .int 0, .ref hn4_0, .int 0, .int 0])), (hn4_0, .inl (kn4_0, 600, .inl (fun _ => 0)))] H := by simp only [ehn4_0, ekn4_0]; exact hP
  have hD : va_D A [(h0, .inr (10, [.ref hn1, .null, .null, .null, .null, .null, .null, .null, .null, .null, .int 0, .int 0])), (hn1, .inr (6, [.ref hn2_0, .ref hn2_1, .ref hn2_2, .ref hn2_3, .ref hn2_4, .ref hn2_5, .int 0, .ref hn2_6, .int 0, .ref hn2_7, .int 0, .int 0, .int 0, .int 0])), (hn2_0, .inl (kn2_0, 48, .inl (fun _ => 0))), (hn2_1, .inl (kn2_1, 48, .inl (fun _ => 0))), (hn2_2, .inl (kn2_2, 48, .inl (fun _ => 0))), (hn2_3, .inl (kn2_3, 48, .inl (fun _ => 0))), (hn2_4, .inl (kn2_4, 48, .inl (fun _ => 0))), (hn2_5, .inl (kn2_5, 48, .inl (fun _ => 0))), (hn2_6, .inl (kn2_6, 192, .inl (fun _ => 0))), (hn2_7, .inl (kn2_7, 30, .inl (fun _ => 0))), (hn3, .inr (4, [.int 0, .int 0, .long 0, .int 0, .int 0, .ref hn4_0, .int 0, .int 0])), (hn4_0, .inl (kn4_0, 600, .inl (fun _ => 0)))] := by simp only [ehn4_0, ekn4_0]; exact hD
  have hK : va_K (dC, dI) vwCl [(kn2_0, .int), (kn2_1, .int), (kn2_2, .int), (kn2_3, .int), (kn2_4, .int), (kn2_5, .int), (kn2_6, .int), (kn2_7, .int), (kn4_0, .byte)] s := by simp only [ehn4_0, ekn4_0]; exact hK
  refine W.widen (k := 11) (n := 1132) (by decide +kernel) (by decide +kernel) ?_
  refine va_putF (D := (dC, dI)) (ci := 10) (v := .ref hn3) (ty := .object "StackPrograms$Scanner") (C := RX10) (T := TX10) (N := 12) hx hb hts inlX10 tyX10 tyX10_ok nmX10 hown hK hP hD hS 0 rfl rfl 1 (by decide) w12_ (fun _ h9 => h9) rfl hin rfl (by decide +kernel) rfl rfl (Nat.le_of_ble_eq_true rfl) dX10_init_23 (fun H locs hP hD hS => ?_)
  have hP : va_P (dC, dI) vwCl [(h0, .inr (10, [.ref hn1, .ref hn3, .null, .null, .null, .null, .null, .null, .null, .null, .int 0, .int 0])), (hn1, .inr (6, [.ref hn2_0, .ref hn2_1, .ref hn2_2, .ref hn2_3, .ref hn2_4, .ref hn2_5, .int 0, .ref hn2_6, .int 0, .ref hn2_7, .int 0, .int 0, .int 0, .int 0])), (hn2_0, .inl (kn2_0, 48, .inl (fun _ => 0))), (hn2_1, .inl (kn2_1, 48, .inl (fun _ => 0))), (hn2_2, .inl (kn2_2, 48, .inl (fun _ => 0))), (hn2_3, .inl (kn2_3, 48, .inl (fun _ => 0))), (hn2_4, .inl (kn2_4, 48, .inl (fun _ => 0))), (hn2_5, .inl (kn2_5, 48, .inl (fun _ => 0))), (hn2_6, .inl (kn2_6, 192, .inl (fun _ => 0))), (hn2_7, .inl (kn2_7, 30, .inl (fun _ => 0))), (hn3, .inr (4, [.int 0, .int 0, .long 0, .int 0, .int 0, .ref hn4_0, .int 0, .int 0])), (hn4_0, .inl (kn4_0, 600, .inl (fun _ => 0)))] H := hP
  have hD : va_D A [(h0, .inr (10, [.ref hn1, .ref hn3, .null, .null, .null, .null, .null, .null, .null, .null, .int 0, .int 0])), (hn1, .inr (6, [.ref hn2_0, .ref hn2_1, .ref hn2_2, .ref hn2_3, .ref hn2_4, .ref hn2_5, .int 0, .ref hn2_6, .int 0, .ref hn2_7, .int 0, .int 0, .int 0, .int 0])), (hn2_0, .inl (kn2_0, 48, .inl (fun _ => 0))), (hn2_1, .inl (kn2_1, 48, .inl (fun _ => 0))), (hn2_2, .inl (kn2_2, 48, .inl (fun _ => 0))), (hn2_3, .inl (kn2_3, 48, .inl (fun _ => 0))), (hn2_4, .inl (kn2_4, 48, .inl (fun _ => 0))), (hn2_5, .inl (kn2_5, 48, .inl (fun _ => 0))), (hn2_6, .inl (kn2_6, 192, .inl (fun _ => 0))), (hn2_7, .inl (kn2_7, 30, .inl (fun _ => 0))), (hn3, .inr (4, [.int 0, .int 0, .long 0, .int 0, .int 0, .ref hn4_0, .int 0, .int 0])), (hn4_0, .inl (kn4_0, 600, .inl (fun _ => 0)))] := hD
  refine lv_aload_n hx hb dX10_init_26 rfl (lv_at hl 0 rfl) ?_
  refine va_new (ci := 3) (fs := [.int 0, .int 0, .int 0, .int 0, .null, .null, .null, .null, .null, .null, .null, .null, .null, .null, .null, .null, .null, .null]) (C := RX3) (T := TX3) (N := 18) hx hb hts inlX3 tyX3 tyX3_ok hown w13_ w14_ w15_ hK hP hD hS hA rfl (by decide +kernel) (by decide +kernel) (by decide +kernel) dX10_init_27 (fun hn5 H hP hD hS => ?_)
  have hP : va_P (dC, dI) vwCl [(h0, .inr (10, [.ref hn1, .ref hn3, .null, .null, .null, .null, .null, .null, .null, .null, .int 0, .int 0])), (hn1, .inr (6, [.ref hn2_0, .ref hn2_1, .ref hn2_2, .ref hn2_3, .ref hn2_4, .ref hn2_5, .int 0, .ref hn2_6, .int 0, .ref hn2_7, .int 0, .int 0, .int 0, .int 0])), (hn2_0, .inl (kn2_0, 48, .inl (fun _ => 0))), (hn2_1, .inl (kn2_1, 48, .inl (fun _ => 0))), (hn2_2, .inl (kn2_2, 48, .inl (fun _ => 0))), (hn2_3, .inl (kn2_3, 48, .inl (fun _ => 0))), (hn2_4, .inl (kn2_4, 48, .inl (fun _ => 0))), (hn2_5, .inl (kn2_5, 48, .inl (fun _ => 0))), (hn2_6, .inl (kn2_6, 192, .inl (fun _ => 0))), (hn2_7, .inl (kn2_7, 30, .inl (fun _ => 0))), (hn3, .inr (4, [.int 0, .int 0, .long 0, .int 0, .int 0, .ref hn4_0, .int 0, .int 0])), (hn4_0, .inl (kn4_0, 600, .inl (fun _ => 0))), (hn5, .inr (3, [.int 0, .int 0, .int 0, .int 0, .null, .null, .null, .null, .null, .null, .null, .null, .null, .null, .null, .null, .null, .null]))] H := hP
  have hD : va_D A [(h0, .inr (10, [.ref hn1, .ref hn3, .null, .null, .null, .null, .null, .null, .null, .null, .int 0, .int 0])), (hn1, .inr (6, [.ref hn2_0, .ref hn2_1, .ref hn2_2, .ref hn2_3, .ref hn2_4, .ref hn2_5, .int 0, .ref hn2_6, .int 0, .ref hn2_7, .int 0, .int 0, .int 0, .int 0])), (hn2_0, .inl (kn2_0, 48, .inl (fun _ => 0))), (hn2_1, .inl (kn2_1, 48, .inl (fun _ => 0))), (hn2_2, .inl (kn2_2, 48, .inl (fun _ => 0))), (hn2_3, .inl (kn2_3, 48, .inl (fun _ => 0))), (hn2_4, .inl (kn2_4, 48, .inl (fun _ => 0))), (hn2_5, .inl (kn2_5, 48, .inl (fun _ => 0))), (hn2_6, .inl (kn2_6, 192, .inl (fun _ => 0))), (hn2_7, .inl (kn2_7, 30, .inl (fun _ => 0))), (hn3, .inr (4, [.int 0, .int 0, .long 0, .int 0, .int 0, .ref hn4_0, .int 0, .int 0])), (hn4_0, .inl (kn4_0, 600, .inl (fun _ => 0))), (hn5, .inr (3, [.int 0, .int 0, .int 0, .int 0, .null, .null, .null, .null, .null, .null, .null, .null, .null, .null, .null, .null, .null, .null]))] := hD
  refine W.widen (k := 12) (n := 1150) (by decide +kernel) (by decide +kernel) ?_
  refine lv_dup hx hb dX10_init_30 rfl ?_
  refine kIN (As := []) (rest := [.ref hn5, .ref h0]) ⟨hx, hb, hml, hown, hts⟩ (mX3_init l dC dI hn5 H.size base) ⟨va_cnB 0 hts (gT q47) rfl rfl rfl hE.2.1.2.2.2.2 w15_ (by decide +kernel) ⟨(by decide +kernel), (by decide +kernel)⟩, rfl, w16_⟩ hK hP hD hS hA hE hAB [12] [0, 1, 2, 3, 4, 5, 6, 7, 8, 9, 10, 11] [] (wr := [(h0, .inr (10, [.ref hn1, .ref hn3, .null, .null, .null, .null, .null, .null, .null, .null, .int 0, .int 0])), (hn1, .inr (6, [.ref hn2_0, .ref hn2_1, .ref hn2_2, .ref hn2_3, .ref hn2_4, .ref hn2_5, .int 0, .ref hn2_6, .int 0, .ref hn2_7, .int 0, .int 0, .int 0, .int 0])), (hn2_0, .inl (kn2_0, 48, .inl (fun _ => 0))), (hn2_1, .inl (kn2_1, 48, .inl (fun _ => 0))), (hn2_2, .inl (kn2_2, 48, .inl (fun _ => 0))), (hn2_3, .inl (kn2_3, 48, .inl (fun _ => 0))), (hn2_4, .inl (kn2_4, 48, .inl (fun _ => 0))), (hn2_5, .inl (kn2_5, 48, .inl (fun _ => 0))), (hn2_6, .inl (kn2_6, 192, .inl (fun _ => 0))), (hn2_7, .inl (kn2_7, 30, .inl (fun _ => 0))), (hn3, .inr (4, [.int 0, .int 0, .long 0, .int 0, .int 0, .ref hn4_0, .int 0, .int 0])), (hn4_0, .inl (kn4_0, 600, .inl (fun _ => 0)))]) rfl rfl (by decide) (by decide) (by decide) rfl rfl hl.1 rfl (Nat.le_of_ble_eq_true rfl) dX10_init_31 ⟨(by decide +kernel), (by decide +kernel)⟩ (fun u6 H locs _ hK hP hD hS => ?_)
  obtain ⟨hn6_0, ehn6_0⟩ : ∃ z, z = u6.1.getD 0 0 := ⟨_, rfl⟩
  obtain ⟨hn6_1, ehn6_1⟩ : ∃ z, z = u6.1.getD 1 0 := ⟨_, rfl⟩
  obtain ⟨hn6_2, ehn6_2⟩ : ∃ z, z = u6.1.getD 2 0 := ⟨_, rfl⟩
  obtain ⟨hn6_3, ehn6_3⟩ : ∃ z, z = u6.1.getD 3 0 := ⟨_, rfl⟩
  obtain ⟨hn6_4, ehn6_4⟩ : ∃ z, z = u6.1.getD 4 0 := ⟨_, rfl⟩
  obtain ⟨hn6_5, ehn6_5⟩ : ∃ z, z = u6.1.getD 5 0 := ⟨_, rfl⟩
  obtain ⟨hn6_6, ehn6_6⟩ : ∃ z, z = u6.1.getD 6 0 := ⟨_, rfl⟩
  obtain ⟨hn6_7, ehn6_7⟩ : ∃ z, z = u6.1.getD 7 0 := ⟨_, rfl⟩
  obtain ⟨hn6_8, ehn6_8⟩ : ∃ z, z = u6.1.getD 8 0 := ⟨_, rfl⟩
  obtain ⟨hn6_9, ehn6_9⟩ : ∃ z, z = u6.1.getD 9 0 := ⟨_, rfl⟩
  obtain ⟨hn6_10, ehn6_10⟩ : ∃ z, z = u6.1.getD 10 0 := ⟨_, rfl⟩
  obtain ⟨hn6_11, ehn6_11⟩ : ∃ z, z = u6.1.getD 11 0 := ⟨_, rfl⟩
  obtain ⟨hn6_12, ehn6_12⟩ : ∃ z, z = u6.1.getD 12 0 := ⟨_, rfl⟩
  obtain ⟨hn6_13, ehn6_13⟩ : ∃ z, z = u6.1.getD 13 0 := ⟨_, rfl⟩
  obtain ⟨kn6_0, ekn6_0⟩ : ∃ z, z = u6.2.getD 0 0 := ⟨_, rfl⟩
  obtain ⟨kn6_1, ekn6_1⟩ : ∃ z, z = u6.2.getD 1 0 := ⟨_, rfl⟩
  obtain ⟨kn6_2, ekn6_2⟩ : ∃ z, z = u6.2.getD 2 0 := ⟨_, rfl⟩
  obtain ⟨kn6_3, ekn6_3⟩ : ∃ z, z = u6.2.getD 3 0 := ⟨_, rfl⟩
  obtain ⟨kn6_4, ekn6_4⟩ : ∃ z, z = u6.2.getD 4 0 := ⟨_, rfl⟩
  obtain ⟨kn6_5, ekn6_5⟩ : ∃ z, z = u6.2.getD 5 0 := ⟨_, rfl⟩
  obtain ⟨kn6_6, ekn6_6⟩ : ∃ z, z = u6.2.getD 6 0 := ⟨_, rfl⟩
  obtain ⟨kn6_7, ekn6_7⟩ : ∃ z, z = u6.2.getD 7 0 := ⟨_, rfl⟩
  obtain ⟨kn6_8, ekn6_8⟩ : ∃ z, z = u6.2.getD 8 0 := ⟨_, rfl⟩
  obtain ⟨kn6_9, ekn6_9⟩ : ∃ z, z = u6.2.getD 9 0 := ⟨_, rfl⟩
  obtain ⟨kn6_10, ekn6_10⟩ : ∃ z, z = u6.2.getD 10 0 := ⟨_, rfl⟩
  obtain ⟨kn6_11, ekn6_11⟩ : ∃ z, z = u6.2.getD 11 0 := ⟨_, rfl⟩
  obtain ⟨kn6_12, ekn6_12⟩ : ∃ z, z = u6.2.getD 12 0 := ⟨_, rfl⟩
  obtain ⟨kn6_13, ekn6_13⟩ : ∃ z, z = u6.2.getD 13 0 := ⟨_, rfl⟩
  have hP : va_P (dC, dI) vwCl [(h0, .inr (10, [.ref hn1, .ref hn3, .null, .null, .null, .null, .null, .null, .null, .null, .int 0, .int 0])), (hn1, .inr (6, [.ref hn2_0, .ref hn2_1, .ref hn2_2, .ref hn2_3, .ref hn2_4, .ref hn2_5, .int 0, .ref hn2_6, .int 0, .ref hn2_7, .int 0, .int 0, .int 0, .int 0])), (hn2_0, .inl (kn2_0, 48, .inl (fun _ => 0))), (hn2_1, .inl (kn2_1, 48, .inl (fun _ => 0))), (hn2_2, .inl (kn2_2, 48, .inl (fun _ => 0))), (hn2_3, .inl (kn2_3, 48, .inl (fun _ => 0))), (hn2_4, .inl (kn2_4, 48, .inl (fun _ => 0))), (hn2_5, .inl (kn2_5, 48, .inl (fun _ => 0))), (hn2_6, .inl (kn2_6, 192, .inl (fun _ => 0))), (hn2_7, .inl (kn2_7, 30, .inl (fun _ => 0))), (hn3, .inr (4, [.int 0, .int 0, .long 0, .int 0, .int 0, .ref hn4_0, .int 0, .int 0])), (hn4_0, .inl (kn4_0, 600, .inl (fun _ => 0))), (hn5, .inr (3, [.int 0, .int 0, .int 0, .int 0, .ref hn6_0, .ref hn6_1, .ref hn6_2, .ref hn6_3, .ref hn6_4, .ref hn6_5, .ref hn6_6, .ref hn6_7, .ref hn6_8, .ref hn6_9, .ref hn6_10, .ref hn6_11, .ref hn6_12, .ref hn6_13])), (hn6_0, .inl (kn6_0, 6, .inl (fun _ => 0))), (hn6_1, .inl (kn6_1, 40, .inl (fun _ => 0))), (hn6_2, .inl (kn6_2, 40, .inl (fun _ => 0))), (hn6_3, .inl (kn6_3, 40, .inl (fun _ => 0))), (hn6_4, .inl (kn6_4, 40, .inr (.inl (fun _ => 0)))), (hn6_5, .inl (kn6_5, 40, .inl (fun _ => 0))), (hn6_6, .inl (kn6_6, 40, .inl (fun _ => 0))), (hn6_7, .inl (kn6_7, 40, .inl (fun _ => 0))), (hn6_8, .inl (kn6_8, 40, .inl (fun _ => 0))), (hn6_9, .inl (kn6_9, 40, .inl (fun _ => 0))), (hn6_10, .inl (kn6_10, 40, .inl (fun _ => 0))), (hn6_11, .inl (kn6_11, 40, .inl (fun _ => 0))), (hn6_12, .inl (kn6_12, 40, .inl (fun _ => 0))), (hn6_13, .inl (kn6_13, 40, .inl (fun _ => 0)))] H := by simp only [ehn6_0, ehn6_1, ehn6_2, ehn6_3, ehn6_4, ehn6_5, ehn6_6, ehn6_7, ehn6_8, ehn6_9, ehn6_10, ehn6_11, ehn6_12, ehn6_13, ekn6_0, ekn6_1, ekn6_2, ekn6_3, ekn6_4, ekn6_5, ekn6_6, ekn6_7, ekn6_8, ekn6_9, ekn6_10, ekn6_11, ekn6_12, ekn6_13]; exact hP
  have hD : va_D A [(h0, .inr (10, [.ref hn1, .ref hn3, .null, .null, .null, .null, .null, .null, .null, .null, .int 0, .int 0])), (hn1, .inr (6, [.ref hn2_0, .ref hn2_1, .ref hn2_2, .ref hn2_3, .ref hn2_4, .ref hn2_5, .int 0, .ref hn2_6, .int 0, .ref hn2_7, .int 0, .int 0, .int 0, .int 0])), (hn2_0, .inl (kn2_0, 48, .inl (fun _ => 0))), (hn2_1, .inl (kn2_1, 48, .inl (fun _ => 0))), (hn2_2, .inl (kn2_2, 48, .inl (fun _ => 0))), (hn2_3, .inl (kn2_3, 48, .inl (fun _ => 0))), (hn2_4, .inl (kn2_4, 48, .inl (fun _ => 0))), (hn2_5, .inl (kn2_5, 48, .inl (fun _ => 0))), (hn2_6, .inl (kn2_6, 192, .inl (fun _ => 0))), (hn2_7, .inl (kn2_7, 30, .inl (fun _ => 0))), (hn3, .inr (4, [.int 0, .int 0, .long 0, .int 0, .int 0, .ref hn4_0, .int 0, .int 0])), (hn4_0, .inl (kn4_0, 600, .inl (fun _ => 0))), (hn5, .inr (3, [.int 0, .int 0, .int 0, .int 0, .ref hn6_0, .ref hn6_1, .ref hn6_2, .ref hn6_3, .ref hn6_4, .ref hn6_5, .ref hn6_6, .ref hn6_7, .ref hn6_8, .ref hn6_9, .ref hn6_10, .ref hn6_11, .ref hn6_12, .ref hn6_13])), (hn6_0, .inl (kn6_0, 6, .inl (fun _ => 0))), (hn6_1, .inl (kn6_1, 40, .inl (fun _ => 0))), (hn6_2, .inl (kn6_2, 40, .inl (fun _ => 0))), (hn6_3, .inl (kn6_3, 40, .inl (fun _ => 0))), (hn6_4, .inl (kn6_4, 40, .inr (.inl (fun _ => 0)))), (hn6_5, .inl (kn6_5, 40, .inl (fun _ => 0))), (hn6_6, .inl (kn6_6, 40, .inl (fun _ => 0))), (hn6_7, .inl (kn6_7, 40, .inl (fun _ => 0))), (hn6_8, .inl (kn6_8, 40, .inl (fun _ => 0))), (hn6_9, .inl (kn6_9, 40, .inl (fun _ => 0))), (hn6_10, .inl (kn6_10, 40, .inl (fun _ => 0))), (hn6_11, .inl (kn6_11, 40, .inl (fun _ => 0))), (hn6_12, .inl (kn6_12, 40, .inl (fun _ => 0))), (hn6_13, .inl (kn6_13, 40, .inl (fun _ => 0)))] := by simp only [ehn6_0, ehn6_1, ehn6_2, ehn6_3, ehn6_4, ehn6_5, ehn6_6, ehn6_7, ehn6_8, ehn6_9, ehn6_10, ehn6_11, ehn6_12, ehn6_13, ekn6_0, ekn6_1, ekn6_2, ekn6_3, ekn6_4, ekn6_5, ekn6_6, ekn6_7, ekn6_8, ekn6_9, ekn6_10, ekn6_11, ekn6_12, ekn6_13]; exact hD
  have hK : va_K (dC, dI) vwCl [(kn2_0, .int), (kn2_1, .int), (kn2_2, .int), (kn2_3, .int), (kn2_4, .int), (kn2_5, .int), (kn2_6, .int), (kn2_7, .int), (kn4_0, .byte), (kn6_0, .int), (kn6_1, .int), (kn6_2, .int), (kn6_3, .int), (kn6_4, .long), (kn6_5, .int), (kn6_6, .int), (kn6_7, .int), (kn6_8, .int), (kn6_9, .int), (kn6_10, .int), (kn6_11, .int), (kn6_12, .int), (kn6_13, .int)] s := by simp only [ehn6_0, ehn6_1, ehn6_2, ehn6_3, ehn6_4, ehn6_5, ehn6_6, ehn6_7, ehn6_8, ehn6_9, ehn6_10, ehn6_11, ehn6_12, ehn6_13, ekn6_0, ekn6_1, ekn6_2, ekn6_3, ekn6_4, ekn6_5, ekn6_6, ekn6_7, ekn6_8, ekn6_9, ekn6_10, ekn6_11, ekn6_12, ekn6_13]; exact hK
  refine W.widen (k := 26) (n := 1676) (by decide +kernel) (by decide +kernel) ?_
  refine va_putF (D := (dC, dI)) (ci := 10) (v := .ref hn5) (ty := .object "StackPrograms$Program") (C := RX10) (T := TX10) (N := 12) hx hb hts inlX10 tyX10 tyX10_ok nmX10 hown hK hP hD hS 0 rfl rfl 2 (by decide) w17_ (fun _ h9 => h9) rfl hin rfl (by decide +kernel) rfl rfl (Nat.le_of_ble_eq_true rfl) dX10_init_34 (fun H locs hP hD hS => ?_)
  have hP : va_P (dC, dI) vwCl [(h0, .inr (10, [.ref hn1, .ref hn3, .ref hn5, .null, .null, .null, .null, .null, .null, .null, .int 0, .int 0])), (hn1, .inr (6, [.ref hn2_0, .ref hn2_1, .ref hn2_2, .ref hn2_3, .ref hn2_4, .ref hn2_5, .int 0, .ref hn2_6, .int 0, .ref hn2_7, .int 0, .int 0, .int 0, .int 0])), (hn2_0, .inl (kn2_0, 48, .inl (fun _ => 0))), (hn2_1, .inl (kn2_1, 48, .inl (fun _ => 0))), (hn2_2, .inl (kn2_2, 48, .inl (fun _ => 0))), (hn2_3, .inl (kn2_3, 48, .inl (fun _ => 0))), (hn2_4, .inl (kn2_4, 48, .inl (fun _ => 0))), (hn2_5, .inl (kn2_5, 48, .inl (fun _ => 0))), (hn2_6, .inl (kn2_6, 192, .inl (fun _ => 0))), (hn2_7, .inl (kn2_7, 30, .inl (fun _ => 0))), (hn3, .inr (4, [.int 0, .int 0, .long 0, .int 0, .int 0, .ref hn4_0, .int 0, .int 0])), (hn4_0, .inl (kn4_0, 600, .inl (fun _ => 0))), (hn5, .inr (3, [.int 0, .int 0, .int 0, .int 0, .ref hn6_0, .ref hn6_1, .ref hn6_2, .ref hn6_3, .ref hn6_4, .ref hn6_5, .ref hn6_6, .ref hn6_7, .ref hn6_8, .ref hn6_9, .ref hn6_10, .ref hn6_11, .ref hn6_12, .ref hn6_13])), (hn6_0, .inl (kn6_0, 6, .inl (fun _ => 0))), (hn6_1, .inl (kn6_1, 40, .inl (fun _ => 0))), (hn6_2, .inl (kn6_2, 40, .inl (fun _ => 0))), (hn6_3, .inl (kn6_3, 40, .inl (fun _ => 0))), (hn6_4, .inl (kn6_4, 40, .inr (.inl (fun _ => 0)))), (hn6_5, .inl (kn6_5, 40, .inl (fun _ => 0))), (hn6_6, .inl (kn6_6, 40, .inl (fun _ => 0))), (hn6_7, .inl (kn6_7, 40, .inl (fun _ => 0))), (hn6_8, .inl (kn6_8, 40, .inl (fun _ => 0))), (hn6_9, .inl (kn6_9, 40, .inl (fun _ => 0))), (hn6_10, .inl (kn6_10, 40, .inl (fun _ => 0))), (hn6_11, .inl (kn6_11, 40, .inl (fun _ => 0))), (hn6_12, .inl (kn6_12, 40, .inl (fun _ => 0))), (hn6_13, .inl (kn6_13, 40, .inl (fun _ => 0)))] H := hP
  have hD : va_D A [(h0, .inr (10, [.ref hn1, .ref hn3, .ref hn5, .null, .null, .null, .null, .null, .null, .null, .int 0, .int 0])), (hn1, .inr (6, [.ref hn2_0, .ref hn2_1, .ref hn2_2, .ref hn2_3, .ref hn2_4, .ref hn2_5, .int 0, .ref hn2_6, .int 0, .ref hn2_7, .int 0, .int 0, .int 0, .int 0])), (hn2_0, .inl (kn2_0, 48, .inl (fun _ => 0))), (hn2_1, .inl (kn2_1, 48, .inl (fun _ => 0))), (hn2_2, .inl (kn2_2, 48, .inl (fun _ => 0))), (hn2_3, .inl (kn2_3, 48, .inl (fun _ => 0))), (hn2_4, .inl (kn2_4, 48, .inl (fun _ => 0))), (hn2_5, .inl (kn2_5, 48, .inl (fun _ => 0))), (hn2_6, .inl (kn2_6, 192, .inl (fun _ => 0))), (hn2_7, .inl (kn2_7, 30, .inl (fun _ => 0))), (hn3, .inr (4, [.int 0, .int 0, .long 0, .int 0, .int 0, .ref hn4_0, .int 0, .int 0])), (hn4_0, .inl (kn4_0, 600, .inl (fun _ => 0))), (hn5, .inr (3, [.int 0, .int 0, .int 0, .int 0, .ref hn6_0, .ref hn6_1, .ref hn6_2, .ref hn6_3, .ref hn6_4, .ref hn6_5, .ref hn6_6, .ref hn6_7, .ref hn6_8, .ref hn6_9, .ref hn6_10, .ref hn6_11, .ref hn6_12, .ref hn6_13])), (hn6_0, .inl (kn6_0, 6, .inl (fun _ => 0))), (hn6_1, .inl (kn6_1, 40, .inl (fun _ => 0))), (hn6_2, .inl (kn6_2, 40, .inl (fun _ => 0))), (hn6_3, .inl (kn6_3, 40, .inl (fun _ => 0))), (hn6_4, .inl (kn6_4, 40, .inr (.inl (fun _ => 0)))), (hn6_5, .inl (kn6_5, 40, .inl (fun _ => 0))), (hn6_6, .inl (kn6_6, 40, .inl (fun _ => 0))), (hn6_7, .inl (kn6_7, 40, .inl (fun _ => 0))), (hn6_8, .inl (kn6_8, 40, .inl (fun _ => 0))), (hn6_9, .inl (kn6_9, 40, .inl (fun _ => 0))), (hn6_10, .inl (kn6_10, 40, .inl (fun _ => 0))), (hn6_11, .inl (kn6_11, 40, .inl (fun _ => 0))), (hn6_12, .inl (kn6_12, 40, .inl (fun _ => 0))), (hn6_13, .inl (kn6_13, 40, .inl (fun _ => 0)))] := hD
  refine lv_aload_n hx hb dX10_init_37 rfl (lv_at hl 0 rfl) ?_
  refine va_new (ci := 2) (fs := [.null, .null, .null, .int 0, .null, .null, .null]) (C := RX2) (T := TX2) (N := 7) hx hb hts inlX2 tyX2 tyX2_ok hown w18_ w19_ w20_ hK hP hD hS hA rfl (by decide +kernel) (by decide +kernel) (by decide +kernel) dX10_init_38 (fun hn7 H hP hD hS => ?_)
  have hP : va_P (dC, dI) vwCl [(h0, .inr (10, [.ref hn1, .ref hn3, .ref hn5, .null, .null, .null, .null, .null, .null, .null, .int 0, .int 0])), (hn1, .inr (6, [.ref hn2_0, .ref hn2_1, .ref hn2_2, .ref hn2_3, .ref hn2_4, .ref hn2_5, .int 0, .ref hn2_6, .int 0, .ref hn2_7, .int 0, .int 0, .int 0, .int 0])), (hn2_0, .inl (kn2_0, 48, .inl (fun _ => 0))), (hn2_1, .inl (kn2_1, 48, .inl (fun _ => 0))), (hn2_2, .inl (kn2_2, 48, .inl (fun _ => 0))), (hn2_3, .inl (kn2_3, 48, .inl (fun _ => 0))), (hn2_4, .inl (kn2_4, 48, .inl (fun _ => 0))), (hn2_5, .inl (kn2_5, 48, .inl (fun _ => 0))), (hn2_6, .inl (kn2_6, 192, .inl (fun _ => 0))), (hn2_7, .inl (kn2_7, 30, .inl (fun _ => 0))), (hn3, .inr (4, [.int 0, .int 0, .long 0, .int 0, .int 0, .ref hn4_0, .int 0, .int 0])), (hn4_0, .inl (kn4_0, 600, .inl (fun _ => 0))), (hn5, .inr (3, [.int 0, .int 0, .int 0, .int 0, .ref hn6_0, .ref hn6_1, .ref hn6_2, .ref hn6_3, .ref hn6_4, .ref hn6_5, .ref hn6_6, .ref hn6_7, .ref hn6_8, .ref hn6_9, .ref hn6_10, .ref hn6_11, .ref hn6_12, .ref hn6_13])), (hn6_0, .inl (kn6_0, 6, .inl (fun _ => 0))), (hn6_1, .inl (kn6_1, 40, .inl (fun _ => 0))), (hn6_2, .inl (kn6_2, 40, .inl (fun _ => 0))), (hn6_3, .inl (kn6_3, 40, .inl (fun _ => 0))), (hn6_4, .inl (kn6_4, 40, .inr (.inl (fun _ => 0)))), (hn6_5, .inl (kn6_5, 40, .inl (fun _ => 0))), (hn6_6, .inl (kn6_6, 40, .inl (fun _ => 0))), (hn6_7, .inl (kn6_7, 40, .inl (fun _ => 0))), (hn6_8, .inl (kn6_8, 40, .inl (fun _ => 0))), (hn6_9, .inl (kn6_9, 40, .inl (fun _ => 0))), (hn6_10, .inl (kn6_10, 40, .inl (fun _ => 0))), (hn6_11, .inl (kn6_11, 40, .inl (fun _ => 0))), (hn6_12, .inl (kn6_12, 40, .inl (fun _ => 0))), (hn6_13, .inl (kn6_13, 40, .inl (fun _ => 0))), (hn7, .inr (2, [.null, .null, .null, .int 0, .null, .null, .null]))] H := hP
  have hD : va_D A [(h0, .inr (10, [.ref hn1, .ref hn3, .ref hn5, .null, .null, .null, .null, .null, .null, .null, .int 0, .int 0])), (hn1, .inr (6, [.ref hn2_0, .ref hn2_1, .ref hn2_2, .ref hn2_3, .ref hn2_4, .ref hn2_5, .int 0, .ref hn2_6, .int 0, .ref hn2_7, .int 0, .int 0, .int 0, .int 0])), (hn2_0, .inl (kn2_0, 48, .inl (fun _ => 0))), (hn2_1, .inl (kn2_1, 48, .inl (fun _ => 0))), (hn2_2, .inl (kn2_2, 48, .inl (fun _ => 0))), (hn2_3, .inl (kn2_3, 48, .inl (fun _ => 0))), (hn2_4, .inl (kn2_4, 48, .inl (fun _ => 0))), (hn2_5, .inl (kn2_5, 48, .inl (fun _ => 0))), (hn2_6, .inl (kn2_6, 192, .inl (fun _ => 0))), (hn2_7, .inl (kn2_7, 30, .inl (fun _ => 0))), (hn3, .inr (4, [.int 0, .int 0, .long 0, .int 0, .int 0, .ref hn4_0, .int 0, .int 0])), (hn4_0, .inl (kn4_0, 600, .inl (fun _ => 0))), (hn5, .inr (3, [.int 0, .int 0, .int 0, .int 0, .ref hn6_0, .ref hn6_1, .ref hn6_2, .ref hn6_3, .ref hn6_4, .ref hn6_5, .ref hn6_6, .ref hn6_7, .ref hn6_8, .ref hn6_9, .ref hn6_10, .ref hn6_11, .ref hn6_12, .ref hn6_13])), (hn6_0, .inl (kn6_0, 6, .inl (fun _ => 0))), (hn6_1, .inl (kn6_1, 40, .inl (fun _ => 0))), (hn6_2, .inl (kn6_2, 40, .inl (fun _ => 0))), (hn6_3, .inl (kn6_3, 40, .inl (fun _ => 0))), (hn6_4, .inl (kn6_4, 40, .inr (.inl (fun _ => 0)))), (hn6_5, .inl (kn6_5, 40, .inl (fun _ => 0))), (hn6_6, .inl (kn6_6, 40, .inl (fun _ => 0))), (hn6_7, .inl (kn6_7, 40, .inl (fun _ => 0))), (hn6_8, .inl (kn6_8, 40, .inl (fun _ => 0))), (hn6_9, .inl (kn6_9, 40, .inl (fun _ => 0))), (hn6_10, .inl (kn6_10, 40, .inl (fun _ => 0))), (hn6_11, .inl (kn6_11, 40, .inl (fun _ => 0))), (hn6_12, .inl (kn6_12, 40, .inl (fun _ => 0))), (hn6_13, .inl (kn6_13, 40, .inl (fun _ => 0))), (hn7, .inr (2, [.null, .null, .null, .int 0, .null, .null, .null]))] := hD
  refine W.widen (k := 27) (n := 1683) (by decide +kernel) (by decide +kernel) ?_
  refine lv_dup hx hb dX10_init_41 rfl ?_
  refine lv_aload_n hx hb dX10_init_42 rfl (lv_at hl 0 rfl) ?_
  refine va_get (D := (dC, dI)) (ci := 10) (v := .ref hn3) (C := RX10) (T := TX10) (N := 12) hx hb hts inlX10 hown hK hP 0 rfl rfl 1 (by decide) w12_ (fun _ h9 => h9) rfl dX10_init_43 ?_
  refine lv_aload_n hx hb dX10_init_46 rfl (lv_at hl 0 rfl) ?_
  refine va_get (D := (dC, dI)) (ci := 10) (v := .ref hn5) (C := RX10) (T := TX10) (N := 12) hx hb hts inlX10 hown hK hP 0 rfl rfl 2 (by decide) w17_ (fun _ h9 => h9) rfl dX10_init_47 ?_
  refine kI (As := [.ref hn3, .ref hn5]) (rest := [.ref hn7, .ref h0]) ⟨hx, hb, hml, hown, hts⟩ (mX2_init l dC dI hn7 hn3 hn5 H.size base) (cwI 2 hts (gT q66) rfl rfl rfl w20_ w21_ w22_ rfl (by decide +kernel) ⟨(by decide +kernel), (by decide +kernel)⟩) hK hP hD hS hA hE hAB [27] [0, 1, 2, 3, 4, 5, 6, 7, 8, 9, 10, 11, 12, 13, 14, 15, 16, 17, 18, 19, 20, 21, 22, 23, 24, 25, 26] [] (wr := [(h0, .inr (10, [.ref hn1, .ref hn3, .ref hn5, .null, .null, .null, .null, .null, .null, .null, .int 0, .int 0])), (hn1, .inr (6, [.ref hn2_0, .ref hn2_1, .ref hn2_2, .ref hn2_3, .ref hn2_4, .ref hn2_5, .int 0, .ref hn2_6, .int 0, .ref hn2_7, .int 0, .int 0, .int 0, .int 0])), (hn2_0, .inl (kn2_0, 48, .inl (fun _ => 0))), (hn2_1, .inl (kn2_1, 48, .inl (fun _ => 0))), (hn2_2, .inl (kn2_2, 48, .inl (fun _ => 0))), (hn2_3, .inl (kn2_3, 48, .inl (fun _ => 0))), (hn2_4, .inl (kn2_4, 48, .inl (fun _ => 0))), (hn2_5, .inl (kn2_5, 48, .inl (fun _ => 0))), (hn2_6, .inl (kn2_6, 192, .inl (fun _ => 0))), (hn2_7, .inl (kn2_7, 30, .inl (fun _ => 0))), (hn3, .inr (4, [.int 0, .int 0, .long 0, .int 0, .int 0, .ref hn4_0, .int 0, .int 0])), (hn4_0, .inl (kn4_0, 600, .inl (fun _ => 0))), (hn5, .inr (3, [.int 0, .int 0, .int 0, .int 0, .ref hn6_0, .ref hn6_1, .ref hn6_2, .ref hn6_3, .ref hn6_4, .ref hn6_5, .ref hn6_6, .ref hn6_7, .ref hn6_8, .ref hn6_9, .ref hn6_10, .ref hn6_11, .ref hn6_12, .ref hn6_13])), (hn6_0, .inl (kn6_0, 6, .inl (fun _ => 0))), (hn6_1, .inl (kn6_1, 40, .inl (fun _ => 0))), (hn6_2, .inl (kn6_2, 40, .inl (fun _ => 0))), (hn6_3, .inl (kn6_3, 40, .inl (fun _ => 0))), (hn6_4, .inl (kn6_4, 40, .inr (.inl (fun _ => 0)))), (hn6_5, .inl (kn6_5, 40, .inl (fun _ => 0))), (hn6_6, .inl (kn6_6, 40, .inl (fun _ => 0))), (hn6_7, .inl (kn6_7, 40, .inl (fun _ => 0))), (hn6_8, .inl (kn6_8, 40, .inl (fun _ => 0))), (hn6_9, .inl (kn6_9, 40, .inl (fun _ => 0))), (hn6_10, .inl (kn6_10, 40, .inl (fun _ => 0))), (hn6_11, .inl (kn6_11, 40, .inl (fun _ => 0))), (hn6_12, .inl (kn6_12, 40, .inl (fun _ => 0))), (hn6_13, .inl (kn6_13, 40, .inl (fun _ => 0)))]) rfl rfl (by decide) (by decide) (by decide) rfl rfl hl.1 rfl (Nat.le_of_ble_eq_true rfl) dX10_init_50 ⟨(by decide +kernel), (by decide +kernel)⟩ (fun u8 H locs _ hK hP hD hS => ?_)
  obtain ⟨hn8_0, ehn8_0⟩ : ∃ z, z = u8.1.getD 0 0 := ⟨_, rfl⟩
  obtain ⟨hn8_1, ehn8_1⟩ : ∃ z, z = u8.1.getD 1 0 := ⟨_, rfl⟩
  obtain ⟨hn8_2, ehn8_2⟩ : ∃ z, z = u8.1.getD 2 0 := ⟨_, rfl⟩
  obtain ⟨hn8_3, ehn8_3⟩ : ∃ z, z = u8.1.getD 3 0 := ⟨_, rfl⟩
  obtain ⟨kn8_0, ekn8_0⟩ : ∃ z, z = u8.2.getD 0 0 := ⟨_, rfl⟩
  obtain ⟨kn8_1, ekn8_1⟩ : ∃ z, z = u8.2.getD 1 0 := ⟨_, rfl⟩
  obtain ⟨kn8_2, ekn8_2⟩ : ∃ z, z = u8.2.getD 2 0 := ⟨_, rfl⟩
  obtain ⟨kn8_3, ekn8_3⟩ : ∃ z, z = u8.2.getD 3 0 := ⟨_, rfl⟩
  have hP : va_P (dC, dI) vwCl [(h0, .inr (10, [.ref hn1, .ref hn3, .ref hn5, .null, .null, .null, .null, .null, .null, .null, .int 0, .int 0])), (hn1, .inr (6, [.ref hn2_0, .ref hn2_1, .ref hn2_2, .ref hn2_3, .ref hn2_4, .ref hn2_5, .int 0, .ref hn2_6, .int 0, .ref hn2_7, .int 0, .int 0, .int 0, .int 0])), (hn2_0, .inl (kn2_0, 48, .inl (fun _ => 0))), (hn2_1, .inl (kn2_1, 48, .inl (fun _ => 0))), (hn2_2, .inl (kn2_2, 48, .inl (fun _ => 0))), (hn2_3, .inl (kn2_3, 48, .inl (fun _ => 0))), (hn2_4, .inl (kn2_4, 48, .inl (fun _ => 0))), (hn2_5, .inl (kn2_5, 48, .inl (fun _ => 0))), (hn2_6, .inl (kn2_6, 192, .inl (fun _ => 0))), (hn2_7, .inl (kn2_7, 30, .inl (fun _ => 0))), (hn3, .inr (4, [.int 0, .int 0, .long 0, .int 0, .int 0, .ref hn4_0, .int 0, .int 0])), (hn4_0, .inl (kn4_0, 600, .inl (fun _ => 0))), (hn5, .inr (3, [.int 0, .int 0, .int 0, .int 0, .ref hn6_0, .ref hn6_1, .ref hn6_2, .ref hn6_3, .ref hn6_4, .ref hn6_5, .ref hn6_6, .ref hn6_7, .ref hn6_8, .ref hn6_9, .ref hn6_10, .ref hn6_11, .ref hn6_12, .ref hn6_13])), (hn6_0, .inl (kn6_0, 6, .inl (fun _ => 0))), (hn6_1, .inl (kn6_1, 40, .inl (fun _ => 0))), (hn6_2, .inl (kn6_2, 40, .inl (fun _ => 0))), (hn6_3, .inl (kn6_3, 40, .inl (fun _ => 0))), (hn6_4, .inl (kn6_4, 40, .inr (.inl (fun _ => 0)))), (hn6_5, .inl (kn6_5, 40, .inl (fun _ => 0))), (hn6_6, .inl (kn6_6, 40, .inl (fun _ => 0))), (hn6_7, .inl (kn6_7, 40, .inl (fun _ => 0))), (hn6_8, .inl (kn6_8, 40, .inl (fun _ => 0))), (hn6_9, .inl (kn6_9, 40, .inl (fun _ => 0))), (hn6_10, .inl (kn6_10, 40, .inl (fun _ => 0))), (hn6_11, .inl (kn6_11, 40, .inl (fun _ => 0))), (hn6_12, .inl (kn6_12, 40, .inl (fun _ => 0))), (hn6_13, .inl (kn6_13, 40, .inl (fun _ => 0))), (hn7, .inr (2, [.ref hn3, .ref hn5, .ref hn8_0, .int 0, .ref hn8_1, .ref hn8_2, .ref hn8_3])), (hn8_0, .inl (kn8_0, 5, .inr (.inl (fun _ => 0)))), (hn8_1, .inl (kn8_1, 6, .inr (.inl (fun _ => 0)))), (hn8_2, .inl (kn8_2, 40, .inr (.inl (fun _ => 0)))), (hn8_3, .inl (kn8_3, 40, .inl (fun _ => 0)))] H := by simp only [ehn8_0, ehn8_1, ehn8_2, ehn8_3, ekn8_0, ekn8_1, ekn8_2, ekn8_3]; exact hP
  have hD : va_D A [(h0, .inr (10, [.ref hn1, .ref hn3, .ref hn5, .null, .null, .null, .null, .null, .null, .null, .int 0, .int 0])), (hn1, .inr (6, [.ref hn2_0, .ref hn2_1, .ref hn2_2, .ref hn2_3, .ref hn2_4, .ref hn2_5, .int 0, .ref hn2_6, .int 0, .ref hn2_7, .int 0, .int 0, .int 0, .int 0])), (hn2_0, .inl (kn2_0, 48, .inl (fun _ => 0))), (hn2_1, .inl (kn2_1, 48, .inl (fun _ => 0))), (hn2_2, .inl (kn2_2, 48, .inl (fun _ => 0))), (hn2_3, .inl (kn2_3, 48, .inl (fun _ => 0))), (hn2_4, .inl (kn2_4, 48, .inl (fun _ => 0))), (hn2_5, .inl (kn2_5, 48, .inl (fun _ => 0))), (hn2_6, .inl (kn2_6, 192, .inl (fun _ => 0))), (hn2_7, .inl (kn2_7, 30, .inl (fun _ => 0))), (hn3, .inr (4, [.int 0, .int 0, .long 0, .int 0, .int 0, .ref hn4_0, .int 0, .int 0])), (hn4_0, .inl (kn4_0, 600, .inl (fun _ => 0))), (hn5, .inr (3, [.int 0, .int 0, .int 0, .int 0, .ref hn6_0, .ref hn6_1, .ref hn6_2, .ref hn6_3, .ref hn6_4, .ref hn6_5, .ref hn6_6, .ref hn6_7, .ref hn6_8, .ref hn6_9, .ref hn6_10, .ref hn6_11, .ref hn6_12, .ref hn6_13])), (hn6_0, .inl (kn6_0, 6, .inl (fun _ => 0))), (hn6_1, .inl (kn6_1, 40, .inl (fun _ => 0))), (hn6_2, .inl (kn6_2, 40, .inl (fun _ => 0))), (hn6_3, .inl (kn6_3, 40, .inl (fun _ => 0))), (hn6_4, .inl (kn6_4, 40, .inr (.inl (fun _ => 0)))), (hn6_5, .inl (kn6_5, 40, .inl (fun _ => 0))), (hn6_6, .inl (kn6_6, 40, .inl (fun _ => 0))), (hn6_7, .inl (kn6_7, 40, .inl (fun _ => 0))), (hn6_8, .inl (kn6_8, 40, .inl (fun _ => 0))), (hn6_9, .inl (kn6_9, 40, .inl (fun _ => 0))), (hn6_10, .inl (kn6_10, 40, .inl (fun _ => 0))), (hn6_11, .inl (kn6_11, 40, .inl (fun _ => 0))), (hn6_12, .inl (kn6_12, 40, .inl (fun _ => 0))), (hn6_13, .inl (kn6_13, 40, .inl (fun _ => 0))), (hn7, .inr (2, [.ref hn3, .ref hn5, .ref hn8_0, .int 0, .ref hn8_1, .ref hn8_2, .ref hn8_3])), (hn8_0, .inl (kn8_0, 5, .inr (.inl (fun _ => 0)))), (hn8_1, .inl (kn8_1, 6, .inr (.inl (fun _ => 0)))), (hn8_2, .inl (kn8_2, 40, .inr (.inl (fun _ => 0)))), (hn8_3, .inl (kn8_3, 40, .inl (fun _ => 0)))] := by simp only [ehn8_0, ehn8_1, ehn8_2, ehn8_3, ekn8_0, ekn8_1, ekn8_2, ekn8_3]; exact hD
  have hK : va_K (dC, dI) vwCl [(kn2_0, .int), (kn2_1, .int), (kn2_2, .int), (kn2_3, .int), (kn2_4, .int), (kn2_5, .int), (kn2_6, .int), (kn2_7, .int), (kn4_0, .byte), (kn6_0, .int), (kn6_1, .int), (kn6_2, .int), (kn6_3, .int), (kn6_4, .long), (kn6_5, .int), (kn6_6, .int), (kn6_7, .int), (kn6_8, .int), (kn6_9, .int), (kn6_10, .int), (kn6_11, .int), (kn6_12, .int), (kn6_13, .int), (kn8_0, .long), (kn8_1, .long), (kn8_2, .long), (kn8_3, .int)] s := by simp only [ehn8_0, ehn8_1, ehn8_2, ehn8_3, ekn8_0, ekn8_1, ekn8_2, ekn8_3]; exact hK
  refine W.widen (k := 31) (n := 1774) (by decide +kernel) (by decide +kernel) ?_
  refine va_putF (D := (dC, dI)) (ci := 10) (v := .ref hn7) (ty := .object "StackPrograms$Parser") (C := RX10) (T := TX10) (N := 12) hx hb hts inlX10 tyX10 tyX10_ok nmX10 hown hK hP hD hS 0 rfl rfl 3 (by decide) w23_ (fun _ h9 => h9) rfl hin rfl (by decide +kernel) rfl rfl (Nat.le_of_ble_eq_true rfl) dX10_init_53 (fun H locs hP hD hS => ?_)
  have hP : va_P (dC, dI) vwCl [(h0, .inr (10, [.ref hn1, .ref hn3, .ref hn5, .ref hn7, .null, .null, .null, .null, .null, .null, .int 0, .int 0])), (hn1, .inr (6, [.ref hn2_0, .ref hn2_1, .ref hn2_2, .ref hn2_3, .ref hn2_4, .ref hn2_5, .int 0, .ref hn2_6, .int 0, .ref hn2_7, .int 0, .int 0, .int 0, .int 0])), (hn2_0, .inl (kn2_0, 48, .inl (fun _ => 0))), (hn2_1, .inl (kn2_1, 48, .inl (fun _ => 0))), (hn2_2, .inl (kn2_2, 48, .inl (fun _ => 0))), (hn2_3, .inl (kn2_3, 48, .inl (fun _ => 0))), (hn2_4, .inl (kn2_4, 48, .inl (fun _ => 0))), (hn2_5, .inl (kn2_5, 48, .inl (fun _ => 0))), (hn2_6, .inl (kn2_6, 192, .inl (fun _ => 0))), (hn2_7, .inl (kn2_7, 30, .inl (fun _ => 0))), (hn3, .inr (4, [.int 0, .int 0, .long 0, .int 0, .int 0, .ref hn4_0, .int 0, .int 0])), (hn4_0, .inl (kn4_0, 600, .inl (fun _ => 0))), (hn5, .inr (3, [.int 0, .int 0, .int 0, .int 0, .ref hn6_0, .ref hn6_1, .ref hn6_2, .ref hn6_3, .ref hn6_4, .ref hn6_5, .ref hn6_6, .ref hn6_7, .ref hn6_8, .ref hn6_9, .ref hn6_10, .ref hn6_11, .ref hn6_12, .ref hn6_13])), (hn6_0, .inl (kn6_0, 6, .inl (fun _ => 0))), (hn6_1, .inl (kn6_1, 40, .inl (fun _ => 0))), (hn6_2, .inl (kn6_2, 40, .inl (fun _ => 0))), (hn6_3, .inl (kn6_3, 40, .inl (fun _ => 0))), (hn6_4, .inl (kn6_4, 40, .inr (.inl (fun _ => 0)))), (hn6_5, .inl (kn6_5, 40, .inl (fun _ => 0))), (hn6_6, .inl (kn6_6, 40, .inl (fun _ => 0))), (hn6_7, .inl (kn6_7, 40, .inl (fun _ => 0))), (hn6_8, .inl (kn6_8, 40, .inl (fun _ => 0))), (hn6_9, .inl (kn6_9, 40, .inl (fun _ => 0))), (hn6_10, .inl (kn6_10, 40, .inl (fun _ => 0))), (hn6_11, .inl (kn6_11, 40, .inl (fun _ => 0))), (hn6_12, .inl (kn6_12, 40, .inl (fun _ => 0))), (hn6_13, .inl (kn6_13, 40, .inl (fun _ => 0))), (hn7, .inr (2, [.ref hn3, .ref hn5, .ref hn8_0, .int 0, .ref hn8_1, .ref hn8_2, .ref hn8_3])), (hn8_0, .inl (kn8_0, 5, .inr (.inl (fun _ => 0)))), (hn8_1, .inl (kn8_1, 6, .inr (.inl (fun _ => 0)))), (hn8_2, .inl (kn8_2, 40, .inr (.inl (fun _ => 0)))), (hn8_3, .inl (kn8_3, 40, .inl (fun _ => 0)))] H := hP
  have hD : va_D A [(h0, .inr (10, [.ref hn1, .ref hn3, .ref hn5, .ref hn7, .null, .null, .null, .null, .null, .null, .int 0, .int 0])), (hn1, .inr (6, [.ref hn2_0, .ref hn2_1, .ref hn2_2, .ref hn2_3, .ref hn2_4, .ref hn2_5, .int 0, .ref hn2_6, .int 0, .ref hn2_7, .int 0, .int 0, .int 0, .int 0])), (hn2_0, .inl (kn2_0, 48, .inl (fun _ => 0))), (hn2_1, .inl (kn2_1, 48, .inl (fun _ => 0))), (hn2_2, .inl (kn2_2, 48, .inl (fun _ => 0))), (hn2_3, .inl (kn2_3, 48, .inl (fun _ => 0))), (hn2_4, .inl (kn2_4, 48, .inl (fun _ => 0))), (hn2_5, .inl (kn2_5, 48, .inl (fun _ => 0))), (hn2_6, .inl (kn2_6, 192, .inl (fun _ => 0))), (hn2_7, .inl (kn2_7, 30, .inl (fun _ => 0))), (hn3, .inr (4, [.int 0, .int 0, .long 0, .int 0, .int 0, .ref hn4_0, .int 0, .int 0])), (hn4_0, .inl (kn4_0, 600, .inl (fun _ => 0))), (hn5, .inr (3, [.int 0, .int 0, .int 0, .int 0, .ref hn6_0, .ref hn6_1, .ref hn6_2, .ref hn6_3, .ref hn6_4, .ref hn6_5, .ref hn6_6, .ref hn6_7, .ref hn6_8, .ref hn6_9, .ref hn6_10, .ref hn6_11, .ref hn6_12, .ref hn6_13])), (hn6_0, .inl (kn6_0, 6, .inl (fun _ => 0))), (hn6_1, .inl (kn6_1, 40, .inl (fun _ => 0))), (hn6_2, .inl (kn6_2, 40, .inl (fun _ => 0))), (hn6_3, .inl (kn6_3, 40, .inl (fun _ => 0))), (hn6_4, .inl (kn6_4, 40, .inr (.inl (fun _ => 0)))), (hn6_5, .inl (kn6_5, 40, .inl (fun _ => 0))), (hn6_6, .inl (kn6_6, 40, .inl (fun _ => 0))), (hn6_7, .inl (kn6_7, 40, .inl (fun _ => 0))), (hn6_8, .inl (kn6_8, 40, .inl (fun _ => 0))), (hn6_9, .inl (kn6_9, 40, .inl (fun _ => 0))), (hn6_10, .inl (kn6_10, 40, .inl (fun _ => 0))), (hn6_11, .inl (kn6_11, 40, .inl (fun _ => 0))), (hn6_12, .inl (kn6_12, 40, .inl (fun _ => 0))), (hn6_13, .inl (kn6_13, 40, .inl (fun _ => 0))), (hn7, .inr (2, [.ref hn3, .ref hn5, .ref hn8_0, .int 0, .ref hn8_1, .ref hn8_2, .ref hn8_3])), (hn8_0, .inl (kn8_0, 5, .inr (.inl (fun _ => 0)))), (hn8_1, .inl (kn8_1, 6, .inr (.inl (fun _ => 0)))), (hn8_2, .inl (kn8_2, 40, .inr (.inl (fun _ => 0)))), (hn8_3, .inl (kn8_3, 40, .inl (fun _ => 0)))] := hD
  have hP9 := hP.sub (ws' := [(h0, .inr (10, [.ref hn1, .ref hn3, .ref hn5, .ref hn7, .null, .null, .null, .null, .null, .null, .int 0, .int 0])), (hn1, .inr (6, [.ref hn2_0, .ref hn2_1, .ref hn2_2, .ref hn2_3, .ref hn2_4, .ref hn2_5, .int 0, .ref hn2_6, .int 0, .ref hn2_7, .int 0, .int 0, .int 0, .int 0])), (hn2_0, .inl (kn2_0, 48, .inl (fun _ => 0))), (hn2_1, .inl (kn2_1, 48, .inl (fun _ => 0))), (hn2_2, .inl (kn2_2, 48, .inl (fun _ => 0))), (hn2_3, .inl (kn2_3, 48, .inl (fun _ => 0))), (hn2_4, .inl (kn2_4, 48, .inl (fun _ => 0))), (hn2_5, .inl (kn2_5, 48, .inl (fun _ => 0))), (hn2_6, .inl (kn2_6, 192, .inl (fun _ => 0))), (hn2_7, .inl (kn2_7, 30, .inl (fun _ => 0))), (hn3, .inr (4, [.int 0, .int 0, .long 0, .int 0, .int 0, .ref hn4_0, .int 0, .int 0])), (hn4_0, .inl (kn4_0, 600, .inl (fun _ => 0))), (hn5, .inr (3, [.int 0, .int 0, .int 0, .int 0, .ref hn6_0, .ref hn6_1, .ref hn6_2, .ref hn6_3, .ref hn6_4, .ref hn6_5, .ref hn6_6, .ref hn6_7, .ref hn6_8, .ref hn6_9, .ref hn6_10, .ref hn6_11, .ref hn6_12, .ref hn6_13])), (hn6_0, .inl (kn6_0, 6, .inl (fun _ => 0))), (hn6_1, .inl (kn6_1, 40, .inl (fun _ => 0))), (hn6_2, .inl (kn6_2, 40, .inl (fun _ => 0))), (hn6_3, .inl (kn6_3, 40, .inl (fun _ => 0))), (hn6_4, .inl (kn6_4, 40, .inr (.inl (fun _ => 0)))), (hn6_5, .inl (kn6_5, 40, .inl (fun _ => 0))), (hn6_6, .inl (kn6_6, 40, .inl (fun _ => 0))), (hn6_7, .inl (kn6_7, 40, .inl (fun _ => 0))), (hn6_8, .inl (kn6_8, 40, .inl (fun _ => 0))), (hn6_9, .inl (kn6_9, 40, .inl (fun _ => 0))), (hn6_10, .inl (kn6_10, 40, .inl (fun _ => 0))), (hn6_11, .inl (kn6_11, 40, .inl (fun _ => 0))), (hn6_12, .inl (kn6_12, 40, .inl (fun _ => 0))), (hn6_13, .inl (kn6_13, 40, .inl (fun _ => 0))), (hn7, .inr (2, [.ref hn3, .ref hn5, .ref hn8_0, .int 0, .ref hn8_1, .ref hn8_2, .ref hn8_3])), (hn8_0, .inl (kn8_0, 5, .inr (.inl (fun _ => 0)))), (hn8_1, .inl (kn8_1, 6, .inr (.inl (fun _ => 0)))), (hn8_2, .inl (kn8_2, 40, .inr (.inl (fun _ => 0)))), (hn8_3, .inl (kn8_3, 40, .inl (fun _ => 0)))]) [0, 1, 2, 3, 4, 5, 6, 7, 8, 9, 10, 11, 12, 13, 14, 15, 16, 17, 18, 19, 20, 21, 22, 23, 24, 25, 26, 27, 28, 29, 30, 31] rfl
  have hD9 := hD.sub (ws' := [(h0, .inr (10, [.ref hn1, .ref hn3, .ref hn5, .ref hn7, .null, .null, .null, .null, .null, .null, .int 0, .int 0])), (hn1, .inr (6, [.ref hn2_0, .ref hn2_1, .ref hn2_2, .ref hn2_3, .ref hn2_4, .ref hn2_5, .int 0, .ref hn2_6, .int 0, .ref hn2_7, .int 0, .int 0, .int 0, .int 0])), (hn2_0, .inl (kn2_0, 48, .inl (fun _ => 0))), (hn2_1, .inl (kn2_1, 48, .inl (fun _ => 0))), (hn2_2, .inl (kn2_2, 48, .inl (fun _ => 0))), (hn2_3, .inl (kn2_3, 48, .inl (fun _ => 0))), (hn2_4, .inl (kn2_4, 48, .inl (fun _ => 0))), (hn2_5, .inl (kn2_5, 48, .inl (fun _ => 0))), (hn2_6, .inl (kn2_6, 192, .inl (fun _ => 0))), (hn2_7, .inl (kn2_7, 30, .inl (fun _ => 0))), (hn3, .inr (4, [.int 0, .int 0, .long 0, .int 0, .int 0, .ref hn4_0, .int 0, .int 0])), (hn4_0, .inl (kn4_0, 600, .inl (fun _ => 0))), (hn5, .inr (3, [.int 0, .int 0, .int 0, .int 0, .ref hn6_0, .ref hn6_1, .ref hn6_2, .ref hn6_3, .ref hn6_4, .ref hn6_5, .ref hn6_6, .ref hn6_7, .ref hn6_8, .ref hn6_9, .ref hn6_10, .ref hn6_11, .ref hn6_12, .ref hn6_13])), (hn6_0, .inl (kn6_0, 6, .inl (fun _ => 0))), (hn6_1, .inl (kn6_1, 40, .inl (fun _ => 0))), (hn6_2, .inl (kn6_2, 40, .inl (fun _ => 0))), (hn6_3, .inl (kn6_3, 40, .inl (fun _ => 0))), (hn6_4, .inl (kn6_4, 40, .inr (.inl (fun _ => 0)))), (hn6_5, .inl (kn6_5, 40, .inl (fun _ => 0))), (hn6_6, .inl (kn6_6, 40, .inl (fun _ => 0))), (hn6_7, .inl (kn6_7, 40, .inl (fun _ => 0))), (hn6_8, .inl (kn6_8, 40, .inl (fun _ => 0))), (hn6_9, .inl (kn6_9, 40, .inl (fun _ => 0))), (hn6_10, .inl (kn6_10, 40, .inl (fun _ => 0))), (hn6_11, .inl (kn6_11, 40, .inl (fun _ => 0))), (hn6_12, .inl (kn6_12, 40, .inl (fun _ => 0))), (hn6_13, .inl (kn6_13, 40, .inl (fun _ => 0))), (hn7, .inr (2, [.ref hn3, .ref hn5, .ref hn8_0, .int 0, .ref hn8_1, .ref hn8_2, .ref hn8_3])), (hn8_0, .inl (kn8_0, 5, .inr (.inl (fun _ => 0)))), (hn8_1, .inl (kn8_1, 6, .inr (.inl (fun _ => 0)))), (hn8_2, .inl (kn8_2, 40, .inr (.inl (fun _ => 0)))), (hn8_3, .inl (kn8_3, 40, .inl (fun _ => 0)))]) [0, 1, 2, 3, 4, 5, 6, 7, 8, 9, 10, 11, 12, 13, 14, 15, 16, 17, 18, 19, 20, 21, 22, 23, 24, 25, 26, 27, 28, 29, 30, 31] (by decide) rfl
  exact W.vret hx hb hr (fun t ht hW => ⟨⟨([hn1, hn2_0, hn2_1, hn2_2, hn2_3, hn2_4, hn2_5, hn2_6, hn2_7, hn3, hn4_0, hn5, hn6_0, hn6_1, hn6_2, hn6_3, hn6_4, hn6_5, hn6_6, hn6_7, hn6_8, hn6_9, hn6_10, hn6_11, hn6_12, hn6_13, hn7, hn8_0, hn8_1, hn8_2, hn8_3], [kn2_0, kn2_1, kn2_2, kn2_3, kn2_4, kn2_5, kn2_6, kn2_7, kn4_0, kn6_0, kn6_1, kn6_2, kn6_3, kn6_4, kn6_5, kn6_6, kn6_7, kn6_8, kn6_9, kn6_10, kn6_11, kn6_12, kn6_13, kn8_0, kn8_1, kn8_2, kn8_3]), rfl, trivial, by rw [ht]; exact hP9, va_K.moved hW.alike hK, hD9⟩, hS.F ht⟩) hS.2.2 dX10_init_56
