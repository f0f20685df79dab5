/-! ===== the law 13: the walk, case by case ===== -/
abbrev aS (s : State) : Nat → Prop := fun q => s.heap.size ≤ q
def lwX (p : Program) (s : State) (m : MethodId) (c : Code) (b L : Nat) (xs : Nat → Int32) (base : Nat × Nat × Nat) : Prop := p.tables.exec = Jvm.exec ∧ c.code = cL_law ∧ c.maxLocals = 4 ∧ s.vm.findClass RL = some m.cls ∧ (∀ w ∈ wsL_law, w.before #[Value.ref b] s = true) ∧ va_X b L xs s s.heap ∧ b < s.heap.size ∧ xE base s ∧ base.1 ≤ s.heap.size ∧ L ≤ 3584
def NX (p : Program) (l : Launch) (e : Env) (s : State) (m : MethodId) (b : Nat) (below : List Frame) (meth : Method) (c : Code) (dC : Nat → ClassId) (dI : Nat → Nat → Nat) (pa pb : Nat) (ls : Array Slot) (Q : State → Prop) (T : Nat) : Prop := ∀ (uc us : Nat) (wc wm : va_W) (tys : TY) (H : Heap) (locs : List Loc), INV T uc us wc wm tys pa pb → uc ≤ 200 → us ≤ 400000 → va_K (dC, dI) vwCl tys s → va_P (dC, dI) vwCl (wc ++ wm) H → va_D (aS s) (wc ++ wm) → va_S (aS s) s.heap H locs → W p l e room_1 s m #[Value.ref b] below meth c H locs uc us Q (F0 m 582 ls [])
theorem in_ij {i j L : Nat} (h : i + j < L) (hL : L ≤ 3584) : vp_in (nI i + nI j) L := by
  rw [nI_add]
  exact vp_in_nI h (by omega)
set_option maxHeartbeats 4000000 in
set_option maxRecDepth 100000 in
theorem lc_push {p : Program} {l : Launch} {e : Env} {s : State} {m : MethodId} {below : List Frame} {meth : Method} {c : Code} {H : Heap} {locs : List Loc} {Q : State → Prop} {dC : Nat → ClassId} {dI : Nat → Nat → Nat} {b L : Nat} {xs : Nat → Int32} {base : Nat × Nat × Nat} {pa pb : Nat} {ls : Array Slot} {i T uc us : Nat} {wc wm : va_W} {tys : TY} (C0 : lwX p s m c b L xs base) (hI : INV T uc us wc wm tys pa pb) (hT : T < 1000) (hi : i + 7 ≤ L) (hK : va_K (dC, dI) vwCl tys s) (hP : va_P (dC, dI) vwCl (wc ++ wm) H) (hD : va_D (aS s) (wc ++ wm)) (hS : va_S (aS s) s.heap H locs) (hl : lv_has ls 4 [(0, .ref b), (1, .ref pa), (2, .ref pb), (3, .int (nI i))]) (nx : NX p l e s m b below meth c dC dI pa pb ls Q (T + 1)) : W p l e room_1 s m #[Value.ref b] below meth c H locs uc us Q (F0 m 276 ls []) := by
  obtain ⟨hx, hb, hml, hown, hts, hX, hbl, hE, hbs, hL⟩ := C0
  have hA : ∀ q : Nat, s.heap.size ≤ q → aS s q := fun _ h => h
  have hAB : ∀ q : Nat, aS s q → base.1 ≤ q := fun _ h => Nat.le_trans hbs h
  have hbA : ¬ aS s b := Nat.not_le.mpr hbl
  refine lv_aload_n hx hb dL_law_276 rfl (lv_at hl 1 rfl) ?_
  refine lv_aload_n hx hb dL_law_277 rfl (lv_at hl 0 rfl) ?_
  refine lv_iload_n hx hb dL_law_278 rfl (lv_at hl 3 rfl) ?_
  refine lv_iconst (v := nI 1) hx hb dL_law_279 (by decide) ?_
  refine lv_iadd hx hb dL_law_280 ?_
  refine va_sld hx hb hX hbl hbA hS (in_ij (by omega) hL) dL_law_281 ?_
  obtain ⟨v, rm, rm2, mc, ms, QC, QM, m1, m2, ⟨r1, r2, r3, r4⟩, ⟨r5, r6, r7, r8⟩, ⟨q0, fs, he⟩, ⟨q1, fs1, he1⟩, ⟨b1, b2⟩, nxt⟩ := cs_push (dC := dC) (dI := dI) hI hT (xs (nI i + nI 1).toNatClampNeg)
  refine kQi (As := [.int (xs (nI i + nI 1).toNatClampNeg)]) (rest := []) ⟨hx, hb, hml, hown, hts⟩ m1 (cwV 1 hts (gTV q202 q203 q204 q2 q205) rfl r1 r2 (by decide +kernel) ⟨by show rm.frames + 1 ≤ 2048; omega, by show 8 + (2 + 11) + rm.locals ≤ 84000; omega⟩) hK hP hD hS hA hE hAB (ci := 10) rfl he rfl rfl hl.1 rfl (Nat.le_of_ble_eq_true rfl) dL_law_282 ⟨by show uc + mc ≤ 66492; omega, by show us + ms ≤ 8902774; omega⟩ (fun w1 t1 H1 locs1 hQ1 hK1 hP1 hD1 hS1 => ?_)
  have hP1 := va_P_sw hP1
  have hD1 := va_D_sw hD1
  refine lv_aload_n hx hb dL_law_285 rfl (lv_at hl 2 rfl) ?_
  refine lv_aload_n hx hb dL_law_286 rfl (lv_at hl 0 rfl) ?_
  refine lv_iload_n hx hb dL_law_287 rfl (lv_at hl 3 rfl) ?_
  refine lv_iconst (v := nI 1) hx hb dL_law_288 (by decide) ?_
  refine lv_iadd hx hb dL_law_289 ?_
  refine va_sld hx hb hX hbl hbA hS1 (in_ij (by omega) hL) dL_law_290 ?_
  refine kQi (As := [.int (xs (nI i + nI 1).toNatClampNeg)]) (rest := [.int v]) ⟨hx, hb, hml, hown, hts⟩ (m2 t1) (cwV 1 hts (gTV q212 q213 q214 q5 q215) rfl r5 r6 (by decide +kernel) ⟨by show rm2.frames + 1 ≤ 2048; omega, by show 8 + (2 + 11) + rm2.locals ≤ 84000; omega⟩) hK1 hP1 hD1 hS1 hA hE hAB (ci := 11) rfl he1 rfl rfl hl.1 rfl (Nat.le_of_ble_eq_true rfl) dL_law_291 ⟨by show uc + mc + 0 ≤ 66492; omega, by show us + ms + 0 ≤ 8902774; omega⟩ (fun w2 t2 H2 locs2 hQ2 hK2 hP2 hD2 hS2 => ?_)
  exact lv_icmp_eq (tgt := 582) hx hb dL_law_294 (by decide) (fun _ => nx _ _ _ _ _ _ _ (nxt _ _ _ _ hQ1 hQ2) b1 b2 hK2 (va_P_sw hP2) (va_D_sw hD2) hS2) (fun z => absurd rfl z)
