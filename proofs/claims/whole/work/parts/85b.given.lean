/-! ===== the law 16: what is given of the start ===== -/
set_option maxHeartbeats 4000000 in
set_option maxRecDepth 100000 in
theorem xE_of {s : State} {b : Nat} (hts : ∀ w ∈ lw_tbl, w.before #[Value.ref b] s = true) (hgv : (Jvm.Cond.and given_1 narrow_1).before #[Value.ref b] s = true) : ∃ base : Nat × Nat × Nat, base.1 = s.heap.size ∧ xE base s := by
  have hs := flat_of_before _ hgv
  have hA : ∀ a : Nat, a < s.heap.size → ¬ (fun q : Nat => s.heap.size ≤ q) a := fun a h z => absurd z (Nat.not_le.mpr h)
  obtain ⟨tw, etw, hTw⟩ := va_Tof (args := #[Value.ref b]) (s := s) (tm := .static "StackPrograms$Scanner" "WORDS" "[J") (ty := .long) (N := 10) (f := fun j => .long (xWords.getD j 0)) (A := fun q => s.heap.size ≤ q) (by decide) (hs _ (by decide +kernel)) (va_eqt (hs (Cond.eq (.length (.static "StackPrograms$Scanner" "WORDS" "[J")) (.int 10)) (by decide +kernel))) (fun j hj => by
    rcases (show j = 0 ∨ j = 1 ∨ j = 2 ∨ j = 3 ∨ j = 4 ∨ j = 5 ∨ j = 6 ∨ j = 7 ∨ j = 8 ∨ j = 9 by omega) with rfl | rfl | rfl | rfl | rfl | rfl | rfl | rfl | rfl | rfl
    · exact va_eqtl (z := 7496054) (hs _ (by decide +kernel))
    · exact va_eqtl (z := 1668248176) (hs _ (by decide +kernel))
    · exact va_eqtl (z := 1702063205) (hs _ (by decide +kernel))
    · exact va_eqtl (z := 26217) (hs _ (by decide +kernel))
    · exact va_eqtl (z := 435610544247) (hs _ (by decide +kernel))
    · exact va_eqtl (z := 1819042147) (hs _ (by decide +kernel))
    · exact va_eqtl (z := 128034677158753) (hs _ (by decide +kernel))
    · exact va_eqtl (z := 111520796341089) (hs _ (by decide +kernel))
    · exact va_eqtl (z := 121437875889522) (hs _ (by decide +kernel))
    · exact va_eqtl (z := 1885956979) (hs _ (by decide +kernel))) hA
  obtain ⟨tb, etb, hTb⟩ := va_Tof (args := #[Value.ref b]) (s := s) (tm := .static "StackPrograms$Parser" "SET_BITS" "[I") (ty := .int) (N := 5) (f := fun j => .int (xBits.getD j 0)) (A := fun q => s.heap.size ≤ q) (by decide) (hs _ (by decide +kernel)) (va_eqt (hs (Cond.eq (.length (.static "StackPrograms$Parser" "SET_BITS" "[I")) (.int 5)) (by decide +kernel))) (fun j hj => by
    rcases (show j = 0 ∨ j = 1 ∨ j = 2 ∨ j = 3 ∨ j = 4 by omega) with rfl | rfl | rfl | rfl | rfl
    · exact va_eqt (z := -1431655766) (hs _ (by decide +kernel))
    · exact va_eqt (z := -858993460) (hs _ (by decide +kernel))
    · exact va_eqt (z := -252645136) (hs _ (by decide +kernel))
    · exact va_eqt (z := -16711936) (hs _ (by decide +kernel))
    · exact va_eqt (z := -65536) (hs _ (by decide +kernel))) hA
  have o1 : ∀ i : Nat, i < 1 → i = 0 := fun i h => by omega
  obtain ⟨adK, adV, hSS, hev⟩ := vk_Sof (args := #[Value.ref b]) (s := s) (N := 1) (tm := fun _ => .string "StackPrograms$Scanner" 52) (len := [13]) (byt := [xMarks]) (A := fun q => s.heap.size ≤ q) (fun i hi => by rw [o1 i hi]; decide) (fun i hi => hs _ (by decide +kernel)) (fun i hi => hs _ (by decide +kernel)) (fun i hi => hs _ (by decide +kernel)) (fun i hi => by rw [o1 i hi]; exact hs _ (by decide +kernel)) (fun i hi j hj => by
    rw [o1 i hi] at hj ⊢
    have hj : j < 13 := hj
    rcases (show j = 0 ∨ j = 1 ∨ j = 2 ∨ j = 3 ∨ j = 4 ∨ j = 5 ∨ j = 6 ∨ j = 7 ∨ j = 8 ∨ j = 9 ∨ j = 10 ∨ j = 11 ∨ j = 12 by omega) with rfl | rfl | rfl | rfl | rfl | rfl | rfl | rfl | rfl | rfl | rfl | rfl | rfl <;> exact hs _ (by decide +kernel)) (fun i j hi hj h => absurd ((o1 i hi).trans (o1 j hj).symm) h) hA
  refine ⟨(s.heap.size, adK 0, adV 0), rfl, Nat.le_refl _, ⟨va_Nw.of rfl (hts (.methodLinkNest RX7 76 yX10_sum "StackPrograms") (by decide +kernel)), va_Nw.of rfl (hts (.methodLinkNest RX8 101 yX10_sum "StackPrograms") (by decide +kernel)), va_Nw.of rfl (hts (.methodLinkNest RX10 9 yX6_init "StackPrograms") (by decide +kernel)), va_Nw.of rfl (hts (.methodLinkNest RX10 18 yX4_init "StackPrograms") (by decide +kernel)), va_Nw.of rfl (hts (.methodLinkNest RX10 25 yX3_init "StackPrograms") (by decide +kernel))⟩, ⟨tw, ?_, hTw⟩, ⟨tb, ?_, hTb⟩, ?_, vk_R.of (hts (.stringRef RX4 52 "01*=;,{}()!&|") (by decide +kernel)) (hev 0 (by decide)), fun i hi => ?_, fun i j hi hj _ => (o1 i hi).trans (o1 j hj).symm⟩
  · exact va_Zof (hts (.laysStatic RX4 "WORDS" "[J") (by decide +kernel)) (hts (.initialized RX4) (by decide +kernel)) etw hA
  · exact va_Zof (hts (.laysStatic RX2 "SET_BITS" "[I") (by decide +kernel)) (hts (.initialized RX2) (by decide +kernel)) etb hA
  · exact va_Zof (hts (.laysStatic RJ0 "COMPACT_STRINGS" "Z") (by decide +kernel)) (hts (.initialized RJ0) (by decide +kernel)) (va_eqt (z := 1) (hs (Cond.eq (.static RJ0 "COMPACT_STRINGS" "Z") (.int 1)) (by decide +kernel))) hA
  · rw [o1 i hi]
    exact hSS.1 0 (by decide)
