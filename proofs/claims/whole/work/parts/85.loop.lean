/-! ===== the law 15: its loop ===== -/
theorem and15 (x : Int32) : ∃ k : Nat, k < 16 ∧ x &&& nI 15 = nI k := by
  refine ⟨(x.toBitVec &&& 15#32).toNat, ?_, ?_⟩
  · rw [BitVec.toNat_and]
    have h : x.toBitVec.toNat &&& 15 ≤ 15 := Nat.and_le_right
    exact Nat.lt_of_le_of_lt h (by decide)
  · apply Int32.toBitVec_inj.mp
    rw [Int32.toBitVec_and]
    show x.toBitVec &&& 15#32 = BitVec.ofNat 32 _
    rw [BitVec.ofNat_toNat, BitVec.setWidth_eq]
theorem go_on {T L : Nat} (hL : L ≤ 3584) (h1 : 7 * T ≤ L) (h : ¬ Int32.ofNat L - nI 7 < nI (7 * T)) : 7 * T + 7 ≤ L := by
  rcases Nat.lt_or_ge L 7 with h2 | h2
  · have h3 : T = 0 := by omega
    subst h3
    exfalso
    rcases (show L = 0 ∨ L = 1 ∨ L = 2 ∨ L = 3 ∨ L = 4 ∨ L = 5 ∨ L = 6 by omega) with rfl | rfl | rfl | rfl | rfl | rfl | rfl <;> exact h (by decide)
  · have h3 : Int32.ofNat L - nI 7 = nI (L - 7) := by
      have e : nI (L - 7) + nI 7 = nI L := by rw [nI_add, Nat.sub_add_cancel h2]
      show nI L - nI 7 = nI (L - 7)
      rw [← e, Int32.add_sub_cancel]
    rw [h3] at h
    rcases Nat.lt_or_ge (L - 7) (7 * T) with h4 | h4
    · exact absurd (nI_lt h4 (by omega)) h
    · omega
set_option maxHeartbeats 8000000 in
set_option maxRecDepth 100000 in
theorem law_loop {p : Program} {l : Launch} {e : Env} {s : State} {m : MethodId} {below : List Frame} {meth : Method} {c : Code} {Q : State → Prop} {dC : Nat → ClassId} {dI : Nat → Nat → Nat} {b L : Nat} {xs : Nat → Int32} {base : Nat × Nat × Nat} {pa pb : Nat} (C0 : lwX p s m c b L xs base) (ex : ∀ (H : Heap) (locs : List Loc) (uc us : Nat) (ls : Array Slot), uc ≤ 200 → us ≤ 400000 → va_S (aS s) s.heap H locs → W p l e room_1 s m #[Value.ref b] below meth c H locs uc us Q (F0 m 588 ls [])) :
    ∀ (n T uc us : Nat) (wc wm : va_W) (tys : TY) (H : Heap) (locs : List Loc) (ls : Array Slot), 7 * T ≤ L → L + 1 ≤ 7 * T + 7 * n → uc ≤ 200 → us ≤ 400000 → INV T uc us wc wm tys pa pb → va_K (dC, dI) vwCl tys s → va_P (dC, dI) vwCl (wc ++ wm) H → va_D (aS s) (wc ++ wm) → va_S (aS s) s.heap H locs → lv_has ls 4 [(0, .ref b), (1, .ref pa), (2, .ref pb), (3, .int (nI (7 * T)))] → W p l e room_1 s m #[Value.ref b] below meth c H locs uc us Q (F0 m 18 ls []) := by
  obtain ⟨hx, hb, hml, hown, hts, hX, hbl, hE, hbs, hL⟩ := id C0
  have hbA : ¬ aS s b := Nat.not_le.mpr hbl
  intro n
  induction n with
  | zero =>
    intro T uc us wc wm tys H locs ls h1 h2
    exact absurd h2 (by omega)
  | succ n ih =>
    intro T uc us wc wm tys H locs ls h1 h2 h3 h4 hI hK hP hD hS hl
    refine lv_iload_n hx hb dL_law_18 rfl (lv_at hl 3 rfl) ?_
    refine lv_aload_n hx hb dL_law_19 rfl (lv_at hl 0 rfl) ?_
    refine va_slen hx hb hX hbl hbA hS dL_law_20 ?_
    refine lv_bipush (v := nI 7) hx hb dL_law_21 (by decide) ?_
    refine lv_isub hx hb dL_law_23 ?_
    refine lv_icmp_gt (tgt := 588) hx hb dL_law_24 (by decide) (fun _ => ex H locs uc us ls h3 h4 hS) (fun hc => ?_)
    have hi : 7 * T + 7 ≤ L := go_on hL h1 hc
    have hT : T < 1000 := by omega
    refine lv_aload_n hx hb dL_law_27 rfl (lv_at hl 0 rfl) ?_
    refine lv_iload_n hx hb dL_law_28 rfl (lv_at hl 3 rfl) ?_
    refine va_sld hx hb hX hbl hbA hS (vp_in_nI (show 7 * T < L by omega) (by omega)) dL_law_29 ?_
    refine lv_bipush (v := nI 15) hx hb dL_law_30 (by decide) ?_
    refine lv_iand hx hb dL_law_32 ?_
    obtain ⟨k, hk, ek⟩ := and15 (xs (nI (7 * T)).toNatClampNeg)
    rw [ek]
    have nx : NX p l e s m b below meth c dC dI pa pb ls Q (T + 1) := by
      intro uc2 us2 wc2 wm2 tys2 H2 locs2 g1 g2 g3 g4 g5 g6 g7
      refine lv_iinc (v := nI (7 * (T + 1))) (lv' := [(3, .int (nI (7 * (T + 1)))), (0, .ref b), (1, .ref pa), (2, .ref pb)]) hx hb dL_law_582 hl (k := 3) rfl (by show nI (7 * T) + nI 7 = _; rw [nI_add]; rfl) (by decide) rfl (fun ls2 hl2 => ?_)
      refine lv_goto (tgt := 18) hx hb dL_law_585 (by decide) ?_
      exact ih (T + 1) uc2 us2 wc2 wm2 tys2 H2 locs2 ls2 (by omega) (by omega) g2 g3 g1 g4 g5 g6 g7 (lv_sub hl2 [1, 2, 3, 0] rfl)
    rcases (show k = 0 ∨ k = 1 ∨ k = 2 ∨ k = 3 ∨ k = 4 ∨ k = 5 ∨ k = 6 ∨ k = 7 ∨ k = 8 ∨ k = 9 ∨ k = 10 ∨ k = 11 ∨ k = 12 ∨ k = 13 ∨ k = 14 ∨ k = 15 by omega) with rfl | rfl | rfl | rfl | rfl | rfl | rfl | rfl | rfl | rfl | rfl | rfl | rfl | rfl | rfl | rfl
    · exact lv_tableIn (tgt := 112) hx hb dL_law_33 (by decide) (by decide) rfl (by decide) (lc_rule C0 hI hT hi hK hP hD hS hl nx)
    · exact lv_tableIn (tgt := 187) hx hb dL_law_33 (by decide) (by decide) rfl (by decide) (lc_arc C0 hI hT hi hK hP hD hS hl nx)
    · exact lv_tableIn (tgt := 230) hx hb dL_law_33 (by decide) (by decide) rfl (by decide) (lc_end C0 hI hT hi hK hP hD hS hl nx)
    · exact lv_tableIn (tgt := 263) hx hb dL_law_33 (by decide) (by decide) rfl (by decide) (lc_clear C0 hI hT hi hK hP hD hS hl nx)
    · exact lv_tableIn (tgt := 276) hx hb dL_law_33 (by decide) (by decide) rfl (by decide) (lc_push C0 hI hT hi hK hP hD hS hl nx)
    · exact lv_tableIn (tgt := 299) hx hb dL_law_33 (by decide) (by decide) rfl (by decide) (lc_drop C0 hI hT hi hK hP hD hS hl nx)
    · exact lv_tableIn (tgt := 312) hx hb dL_law_33 (by decide) (by decide) rfl (by decide) (lc_lies C0 hI hT hi hK hP hD hS hl nx)
    · exact lv_tableIn (tgt := 335) hx hb dL_law_33 (by decide) (by decide) rfl (by decide) (lc_far C0 hI hT hi hK hP hD hS hl nx)
    · exact lv_tableIn (tgt := 358) hx hb dL_law_33 (by decide) (by decide) rfl (by decide) (lc_way C0 hI hT hi hK hP hD hS hl nx)
    · exact lv_tableIn (tgt := 391) hx hb dL_law_33 (by decide) (by decide) rfl (by decide) (lc_after C0 hI hT hi hK hP hD hS hl nx)
    · exact lv_tableIn (tgt := 414) hx hb dL_law_33 (by decide) (by decide) rfl (by decide) (lc_type C0 hI hT hi hK hP hD hS hl nx)
    · exact lv_tableIn (tgt := 477) hx hb dL_law_33 (by decide) (by decide) rfl (by decide) (lc_read C0 hI hT hi hK hP hD hS hl nx)
    · exact lv_tableIn (tgt := 490) hx hb dL_law_33 (by decide) (by decide) rfl (by decide) (lc_place C0 hI hT hi hK hP hD hS hl nx)
    · exact lv_tableIn (tgt := 503) hx hb dL_law_33 (by decide) (by decide) rfl (by decide) (lc_told C0 hI hT hi hK hP hD hS hl nx)
    · exact lv_tableIn (tgt := 536) hx hb dL_law_33 (by decide) (by decide) rfl (by decide) (lc_check C0 hI hT hi hK hP hD hS hl nx)
    · exact lv_tableIn (tgt := 549) hx hb dL_law_33 (by decide) (by decide) rfl (by decide) (lc_trace C0 hI hT hi hK hP hD hS hl nx)
