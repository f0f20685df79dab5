/-! ===== the law 14: the walk, the other cases ===== -/
set_option maxHeartbeats 4000000 in
set_option maxRecDepth 100000 in
theorem lc_rule {p : Program} {l : Launch} {e : Env} {s : State} {m : MethodId} {below : List Frame} {meth : Method} {c : Code} {H : Heap} {locs : List Loc} {Q : State → Prop} {dC : Nat → ClassId} {dI : Nat → Nat → Nat} {b L : Nat} {xs : Nat → Int32} {base : Nat × Nat × Nat} {pa pb : Nat} {ls : Array Slot} {i T uc us : Nat} {wc wm : va_W} {tys : TY} (C0 : lwX p s m c b L xs base) (hI : INV T uc us wc wm tys pa pb) (hT : T < 1000) (hi : i + 7 ≤ L) (hK : va_K (dC, dI) vwCl tys s) (hP : va_P (dC, dI) vwCl (wc ++ wm) H) (hD : va_D (aS s) (wc ++ wm)) (hS : va_S (aS s) s.heap H locs) (hl : lv_has ls 4 [(0, .ref b), (1, .ref pa), (2, .ref pb), (3, .int (nI i))]) (nx : NX p l e s m b below meth c dC dI pa pb ls Q (T + 1)) : W p l e room_1 s m #[Value.ref b] below meth c H locs uc us Q (F0 m 112 ls []) := by
  obtain ⟨hx, hb, hml, hown, hts, hX, hbl, hE, hbs, hL⟩ := C0
  have hA : ∀ q : Nat, s.heap.size ≤ q → aS s q := fun _ h => h
  have hAB : ∀ q : Nat, aS s q → base.1 ≤ q := fun _ h => Nat.le_trans hbs h
  have hbA : ¬ aS s b := Nat.not_le.mpr hbl
  refine lv_aload_n hx hb dL_law_112 rfl (lv_at hl 1 rfl) ?_
  refine lv_aload_n hx hb dL_law_113 rfl (lv_at hl 0 rfl) ?_
  refine lv_iload_n hx hb dL_law_114 rfl (lv_at hl 3 rfl) ?_
  refine lv_iconst (v := nI 1) hx hb dL_law_115 (by decide) ?_
  refine lv_iadd hx hb dL_law_116 ?_
  refine va_sld hx hb hX hbl hbA hS (in_ij (by omega) hL) dL_law_117 ?_
  refine lv_aload_n hx hb dL_law_118 rfl (lv_at hl 0 rfl) ?_
  refine lv_iload_n hx hb dL_law_119 rfl (lv_at hl 3 rfl) ?_
  refine lv_iconst (v := nI 2) hx hb dL_law_120 (by decide) ?_
  refine lv_iadd hx hb dL_law_121 ?_
  refine va_sld hx hb hX hbl hbA hS (in_ij (by omega) hL) dL_law_122 ?_
  refine lv_aload_n hx hb dL_law_123 rfl (lv_at hl 0 rfl) ?_
  refine lv_iload_n hx hb dL_law_124 rfl (lv_at hl 3 rfl) ?_
  refine lv_iconst (v := nI 3) hx hb dL_law_125 (by decide) ?_
  refine lv_iadd hx hb dL_law_126 ?_
  refine va_sld hx hb hX hbl hbA hS (in_ij (by omega) hL) dL_law_127 ?_
  refine lv_aload_n hx hb dL_law_128 rfl (lv_at hl 0 rfl) ?_
  refine lv_iload_n hx hb dL_law_129 rfl (lv_at hl 3 rfl) ?_
  refine lv_iconst (v := nI 4) hx hb dL_law_130 (by decide) ?_
  refine lv_iadd hx hb dL_law_131 ?_
  refine va_sld hx hb hX hbl hbA hS (in_ij (by omega) hL) dL_law_132 ?_
  refine lv_aload_n hx hb dL_law_133 rfl (lv_at hl 0 rfl) ?_
  refine lv_iload_n hx hb dL_law_134 rfl (lv_at hl 3 rfl) ?_
  refine lv_iconst (v := nI 5) hx hb dL_law_135 (by decide) ?_
  refine lv_iadd hx hb dL_law_136 ?_
  refine va_sld hx hb hX hbl hbA hS (in_ij (by omega) hL) dL_law_137 ?_
  refine lv_aload_n hx hb dL_law_138 rfl (lv_at hl 0 rfl) ?_
  refine lv_iload_n hx hb dL_law_139 rfl (lv_at hl 3 rfl) ?_
  refine lv_bipush (v := nI 6) hx hb dL_law_140 (by decide) ?_
  refine lv_iadd hx hb dL_law_142 ?_
  refine va_sld hx hb hX hbl hbA hS (in_ij (by omega) hL) dL_law_143 ?_
  obtain ⟨v, rm, rm2, mc, ms, QC, QM, m1, m2, ⟨r1, r2, r3, r4⟩, ⟨r5, r6, r7, r8⟩, ⟨q0, fs, he⟩, ⟨q1, fs1, he1⟩, ⟨b1, b2⟩, nxt⟩ := cs_rule (dC := dC) (dI := dI) hI hT (xs (nI i + nI 1).toNatClampNeg) (xs (nI i + nI 2).toNatClampNeg) (xs (nI i + nI 3).toNatClampNeg) (xs (nI i + nI 4).toNatClampNeg) (xs (nI i + nI 5).toNatClampNeg) (xs (nI i + nI 6).toNatClampNeg)
  refine kQi (As := [.int (xs (nI i + nI 1).toNatClampNeg), .int (xs (nI i + nI 2).toNatClampNeg), .int (xs (nI i + nI 3).toNatClampNeg), .int (xs (nI i + nI 4).toNatClampNeg), .int (xs (nI i + nI 5).toNatClampNeg), .int (xs (nI i + nI 6).toNatClampNeg)]) (rest := []) ⟨hx, hb, hml, hown, hts⟩ m1 (cwV 6 hts (gTV q126 q127 q128 q2 q129) rfl r1 r2 (by decide +kernel) ⟨by show rm.frames + 1 ≤ 2048; omega, by show 8 + (7 + 11) + rm.locals ≤ 84000; omega⟩) hK hP hD hS hA hE hAB (ci := 10) rfl he rfl rfl hl.1 rfl (Nat.le_of_ble_eq_true rfl) dL_law_144 ⟨by show uc + mc ≤ 66492; omega, by show us + ms ≤ 8902774; omega⟩ (fun w1 t1 H1 locs1 hQ1 hK1 hP1 hD1 hS1 => ?_)
  have hP1 := va_P_sw hP1
  have hD1 := va_D_sw hD1
  refine lv_aload_n hx hb dL_law_147 rfl (lv_at hl 2 rfl) ?_
  refine lv_aload_n hx hb dL_law_148 rfl (lv_at hl 0 rfl) ?_
  refine lv_iload_n hx hb dL_law_149 rfl (lv_at hl 3 rfl) ?_
  refine lv_iconst (v := nI 1) hx hb dL_law_150 (by decide) ?_
  refine lv_iadd hx hb dL_law_151 ?_
  refine va_sld hx hb hX hbl hbA hS1 (in_ij (by omega) hL) dL_law_152 ?_
  refine lv_aload_n hx hb dL_law_153 rfl (lv_at hl 0 rfl) ?_
  refine lv_iload_n hx hb dL_law_154 rfl (lv_at hl 3 rfl) ?_
  refine lv_iconst (v := nI 2) hx hb dL_law_155 (by decide) ?_
  refine lv_iadd hx hb dL_law_156 ?_
  refine va_sld hx hb hX hbl hbA hS1 (in_ij (by omega) hL) dL_law_157 ?_
  refine lv_aload_n hx hb dL_law_158 rfl (lv_at hl 0 rfl) ?_
  refine lv_iload_n hx hb dL_law_159 rfl (lv_at hl 3 rfl) ?_
  refine lv_iconst (v := nI 3) hx hb dL_law_160 (by decide) ?_
  refine lv_iadd hx hb dL_law_161 ?_
  refine va_sld hx hb hX hbl hbA hS1 (in_ij (by omega) hL) dL_law_162 ?_
  refine lv_aload_n hx hb dL_law_163 rfl (lv_at hl 0 rfl) ?_
  refine lv_iload_n hx hb dL_law_164 rfl (lv_at hl 3 rfl) ?_
  refine lv_iconst (v := nI 4) hx hb dL_law_165 (by decide) ?_
  refine lv_iadd hx hb dL_law_166 ?_
  refine va_sld hx hb hX hbl hbA hS1 (in_ij (by omega) hL) dL_law_167 ?_
  refine lv_aload_n hx hb dL_law_168 rfl (lv_at hl 0 rfl) ?_
  refine lv_iload_n hx hb dL_law_169 rfl (lv_at hl 3 rfl) ?_
  refine lv_iconst (v := nI 5) hx hb dL_law_170 (by decide) ?_
  refine lv_iadd hx hb dL_law_171 ?_
  refine va_sld hx hb hX hbl hbA hS1 (in_ij (by omega) hL) dL_law_172 ?_
  refine lv_aload_n hx hb dL_law_173 rfl (lv_at hl 0 rfl) ?_
  refine lv_iload_n hx hb dL_law_174 rfl (lv_at hl 3 rfl) ?_
  refine lv_bipush (v := nI 6) hx hb dL_law_175 (by decide) ?_
  refine lv_iadd hx hb dL_law_177 ?_
  refine va_sld hx hb hX hbl hbA hS1 (in_ij (by omega) hL) dL_law_178 ?_
  refine kQi (As := [.int (xs (nI i + nI 1).toNatClampNeg), .int (xs (nI i + nI 2).toNatClampNeg), .int (xs (nI i + nI 3).toNatClampNeg), .int (xs (nI i + nI 4).toNatClampNeg), .int (xs (nI i + nI 5).toNatClampNeg), .int (xs (nI i + nI 6).toNatClampNeg)]) (rest := [.int v]) ⟨hx, hb, hml, hown, hts⟩ (m2 t1) (cwV 6 hts (gTV q142 q143 q144 q5 q145) rfl r5 r6 (by decide +kernel) ⟨by show rm2.frames + 1 ≤ 2048; omega, by show 8 + (7 + 11) + rm2.locals ≤ 84000; omega⟩) hK1 hP1 hD1 hS1 hA hE hAB (ci := 11) rfl he1 rfl rfl hl.1 rfl (Nat.le_of_ble_eq_true rfl) dL_law_179 ⟨by show uc + mc + 0 ≤ 66492; omega, by show us + ms + 0 ≤ 8902774; omega⟩ (fun w2 t2 H2 locs2 hQ2 hK2 hP2 hD2 hS2 => ?_)
  exact lv_icmp_eq (tgt := 582) hx hb dL_law_182 (by decide) (fun _ => nx _ _ _ _ _ _ _ (nxt _ _ _ _ hQ1 hQ2) b1 b2 hK2 (va_P_sw hP2) (va_D_sw hD2) hS2) (fun z => absurd rfl z)
set_option maxHeartbeats 4000000 in
set_option maxRecDepth 100000 in
theorem lc_arc {p : Program} {l : Launch} {e : Env} {s : State} {m : MethodId} {below : List Frame} {meth : Method} {c : Code} {H : Heap} {locs : List Loc} {Q : State → Prop} {dC : Nat → ClassId} {dI : Nat → Nat → Nat} {b L : Nat} {xs : Nat → Int32} {base : Nat × Nat × Nat} {pa pb : Nat} {ls : Array Slot} {i T uc us : Nat} {wc wm : va_W} {tys : TY} (C0 : lwX p s m c b L xs base) (hI : INV T uc us wc wm tys pa pb) (hT : T < 1000) (hi : i + 7 ≤ L) (hK : va_K (dC, dI) vwCl tys s) (hP : va_P (dC, dI) vwCl (wc ++ wm) H) (hD : va_D (aS s) (wc ++ wm)) (hS : va_S (aS s) s.heap H locs) (hl : lv_has ls 4 [(0, .ref b), (1, .ref pa), (2, .ref pb), (3, .int (nI i))]) (nx : NX p l e s m b below meth c dC dI pa pb ls Q (T + 1)) : W p l e room_1 s m #[Value.ref b] below meth c H locs uc us Q (F0 m 187 ls []) := by
  obtain ⟨hx, hb, hml, hown, hts, hX, hbl, hE, hbs, hL⟩ := C0
  have hA : ∀ q : Nat, s.heap.size ≤ q → aS s q := fun _ h => h
  have hAB : ∀ q : Nat, aS s q → base.1 ≤ q := fun _ h => Nat.le_trans hbs h
  have hbA : ¬ aS s b := Nat.not_le.mpr hbl
  refine lv_aload_n hx hb dL_law_187 rfl (lv_at hl 1 rfl) ?_
  refine lv_aload_n hx hb dL_law_188 rfl (lv_at hl 0 rfl) ?_
  refine lv_iload_n hx hb dL_law_189 rfl (lv_at hl 3 rfl) ?_
  refine lv_iconst (v := nI 1) hx hb dL_law_190 (by decide) ?_
  refine lv_iadd hx hb dL_law_191 ?_
  refine va_sld hx hb hX hbl hbA hS (in_ij (by omega) hL) dL_law_192 ?_
  refine lv_aload_n hx hb dL_law_193 rfl (lv_at hl 0 rfl) ?_
  refine lv_iload_n hx hb dL_law_194 rfl (lv_at hl 3 rfl) ?_
  refine lv_iconst (v := nI 2) hx hb dL_law_195 (by decide) ?_
  refine lv_iadd hx hb dL_law_196 ?_
  refine va_sld hx hb hX hbl hbA hS (in_ij (by omega) hL) dL_law_197 ?_
  refine lv_aload_n hx hb dL_law_198 rfl (lv_at hl 0 rfl) ?_
  refine lv_iload_n hx hb dL_law_199 rfl (lv_at hl 3 rfl) ?_
  refine lv_iconst (v := nI 3) hx hb dL_law_200 (by decide) ?_
  refine lv_iadd hx hb dL_law_201 ?_
  refine va_sld hx hb hX hbl hbA hS (in_ij (by omega) hL) dL_law_202 ?_
  obtain ⟨v, rm, rm2, mc, ms, QC, QM, m1, m2, ⟨r1, r2, r3, r4⟩, ⟨r5, r6, r7, r8⟩, ⟨q0, fs, he⟩, ⟨q1, fs1, he1⟩, ⟨b1, b2⟩, nxt⟩ := cs_arc (dC := dC) (dI := dI) hI hT (xs (nI i + nI 1).toNatClampNeg) (xs (nI i + nI 2).toNatClampNeg) (xs (nI i + nI 3).toNatClampNeg)
  refine kQi (As := [.int (xs (nI i + nI 1).toNatClampNeg), .int (xs (nI i + nI 2).toNatClampNeg), .int (xs (nI i + nI 3).toNatClampNeg)]) (rest := []) ⟨hx, hb, hml, hown, hts⟩ m1 (cwV 3 hts (gTV q156 q157 q158 q2 q159) rfl r1 r2 (by decide +kernel) ⟨by show rm.frames + 1 ≤ 2048; omega, by show 8 + (4 + 11) + rm.locals ≤ 84000; omega⟩) hK hP hD hS hA hE hAB (ci := 10) rfl he rfl rfl hl.1 rfl (Nat.le_of_ble_eq_true rfl) dL_law_203 ⟨by show uc + mc ≤ 66492; omega, by show us + ms ≤ 8902774; omega⟩ (fun w1 t1 H1 locs1 hQ1 hK1 hP1 hD1 hS1 => ?_)
  have hP1 := va_P_sw hP1
  have hD1 := va_D_sw hD1
  refine lv_aload_n hx hb dL_law_206 rfl (lv_at hl 2 rfl) ?_
  refine lv_aload_n hx hb dL_law_207 rfl (lv_at hl 0 rfl) ?_
  refine lv_iload_n hx hb dL_law_208 rfl (lv_at hl 3 rfl) ?_
  refine lv_iconst (v := nI 1) hx hb dL_law_209 (by decide) ?_
  refine lv_iadd hx hb dL_law_210 ?_
  refine va_sld hx hb hX hbl hbA hS1 (in_ij (by omega) hL) dL_law_211 ?_
  refine lv_aload_n hx hb dL_law_212 rfl (lv_at hl 0 rfl) ?_
  refine lv_iload_n hx hb dL_law_213 rfl (lv_at hl 3 rfl) ?_
  refine lv_iconst (v := nI 2) hx hb dL_law_214 (by decide) ?_
  refine lv_iadd hx hb dL_law_215 ?_
  refine va_sld hx hb hX hbl hbA hS1 (in_ij (by omega) hL) dL_law_216 ?_
  refine lv_aload_n hx hb dL_law_217 rfl (lv_at hl 0 rfl) ?_
  refine lv_iload_n hx hb dL_law_218 rfl (lv_at hl 3 rfl) ?_
  refine lv_iconst (v := nI 3) hx hb dL_law_219 (by decide) ?_
  refine lv_iadd hx hb dL_law_220 ?_
  refine va_sld hx hb hX hbl hbA hS1 (in_ij (by omega) hL) dL_law_221 ?_
  refine kQi (As := [.int (xs (nI i + nI 1).toNatClampNeg), .int (xs (nI i + nI 2).toNatClampNeg), .int (xs (nI i + nI 3).toNatClampNeg)]) (rest := [.int v]) ⟨hx, hb, hml, hown, hts⟩ (m2 t1) (cwV 3 hts (gTV q168 q169 q170 q5 q171) rfl r5 r6 (by decide +kernel) ⟨by show rm2.frames + 1 ≤ 2048; omega, by show 8 + (5 + 11) + rm2.locals ≤ 84000; omega⟩) hK1 hP1 hD1 hS1 hA hE hAB (ci := 11) rfl he1 rfl rfl hl.1 rfl (Nat.le_of_ble_eq_true rfl) dL_law_222 ⟨by show uc + mc + 0 ≤ 66492; omega, by show us + ms + 0 ≤ 8902774; omega⟩ (fun w2 t2 H2 locs2 hQ2 hK2 hP2 hD2 hS2 => ?_)
  exact lv_icmp_eq (tgt := 582) hx hb dL_law_225 (by decide) (fun _ => nx _ _ _ _ _ _ _ (nxt _ _ _ _ hQ1 hQ2) b1 b2 hK2 (va_P_sw hP2) (va_D_sw hD2) hS2) (fun z => absurd rfl z)
set_option maxHeartbeats 4000000 in
set_option maxRecDepth 100000 in
theorem lc_end {p : Program} {l : Launch} {e : Env} {s : State} {m : MethodId} {below : List Frame} {meth : Method} {c : Code} {H : Heap} {locs : List Loc} {Q : State → Prop} {dC : Nat → ClassId} {dI : Nat → Nat → Nat} {b L : Nat} {xs : Nat → Int32} {base : Nat × Nat × Nat} {pa pb : Nat} {ls : Array Slot} {i T uc us : Nat} {wc wm : va_W} {tys : TY} (C0 : lwX p s m c b L xs base) (hI : INV T uc us wc wm tys pa pb) (hT : T < 1000) (hi : i + 7 ≤ L) (hK : va_K (dC, dI) vwCl tys s) (hP : va_P (dC, dI) vwCl (wc ++ wm) H) (hD : va_D (aS s) (wc ++ wm)) (hS : va_S (aS s) s.heap H locs) (hl : lv_has ls 4 [(0, .ref b), (1, .ref pa), (2, .ref pb), (3, .int (nI i))]) (nx : NX p l e s m b below meth c dC dI pa pb ls Q (T + 1)) : W p l e room_1 s m #[Value.ref b] below meth c H locs uc us Q (F0 m 230 ls []) := by
  obtain ⟨hx, hb, hml, hown, hts, hX, hbl, hE, hbs, hL⟩ := C0
  have hA : ∀ q : Nat, s.heap.size ≤ q → aS s q := fun _ h => h
  have hAB : ∀ q : Nat, aS s q → base.1 ≤ q := fun _ h => Nat.le_trans hbs h
  have hbA : ¬ aS s b := Nat.not_le.mpr hbl
  refine lv_aload_n hx hb dL_law_230 rfl (lv_at hl 1 rfl) ?_
  refine lv_aload_n hx hb dL_law_231 rfl (lv_at hl 0 rfl) ?_
  refine lv_iload_n hx hb dL_law_232 rfl (lv_at hl 3 rfl) ?_
  refine lv_iconst (v := nI 1) hx hb dL_law_233 (by decide) ?_
  refine lv_iadd hx hb dL_law_234 ?_
  refine va_sld hx hb hX hbl hbA hS (in_ij (by omega) hL) dL_law_235 ?_
  refine lv_aload_n hx hb dL_law_236 rfl (lv_at hl 0 rfl) ?_
  refine lv_iload_n hx hb dL_law_237 rfl (lv_at hl 3 rfl) ?_
  refine lv_iconst (v := nI 2) hx hb dL_law_238 (by decide) ?_
  refine lv_iadd hx hb dL_law_239 ?_
  refine va_sld hx hb hX hbl hbA hS (in_ij (by omega) hL) dL_law_240 ?_
  obtain ⟨v, rm, rm2, mc, ms, QC, QM, m1, m2, ⟨r1, r2, r3, r4⟩, ⟨r5, r6, r7, r8⟩, ⟨q0, fs, he⟩, ⟨q1, fs1, he1⟩, ⟨b1, b2⟩, nxt⟩ := cs_end (dC := dC) (dI := dI) hI hT (xs (nI i + nI 1).toNatClampNeg) (xs (nI i + nI 2).toNatClampNeg)
  refine kQi (As := [.int (xs (nI i + nI 1).toNatClampNeg), .int (xs (nI i + nI 2).toNatClampNeg)]) (rest := []) ⟨hx, hb, hml, hown, hts⟩ m1 (cwV 2 hts (gTV q173 q174 q175 q2 q176) rfl r1 r2 (by decide +kernel) ⟨by show rm.frames + 1 ≤ 2048; omega, by show 8 + (3 + 11) + rm.locals ≤ 84000; omega⟩) hK hP hD hS hA hE hAB (ci := 10) rfl he rfl rfl hl.1 rfl (Nat.le_of_ble_eq_true rfl) dL_law_241 ⟨by show uc + mc ≤ 66492; omega, by show us + ms ≤ 8902774; omega⟩ (fun w1 t1 H1 locs1 hQ1 hK1 hP1 hD1 hS1 => ?_)
  have hP1 := va_P_sw hP1
  have hD1 := va_D_sw hD1
  refine lv_aload_n hx hb dL_law_244 rfl (lv_at hl 2 rfl) ?_
  refine lv_aload_n hx hb dL_law_245 rfl (lv_at hl 0 rfl) ?_
  refine lv_iload_n hx hb dL_law_246 rfl (lv_at hl 3 rfl) ?_
  refine lv_iconst (v := nI 1) hx hb dL_law_247 (by decide) ?_
  refine lv_iadd hx hb dL_law_248 ?_
  refine va_sld hx hb hX hbl hbA hS1 (in_ij (by omega) hL) dL_law_249 ?_
  refine lv_aload_n hx hb dL_law_250 rfl (lv_at hl 0 rfl) ?_
  refine lv_iload_n hx hb dL_law_251 rfl (lv_at hl 3 rfl) ?_
  refine lv_iconst (v := nI 2) hx hb dL_law_252 (by decide) ?_
  refine lv_iadd hx hb dL_law_253 ?_
  refine va_sld hx hb hX hbl hbA hS1 (in_ij (by omega) hL) dL_law_254 ?_
  refine kQi (As := [.int (xs (nI i + nI 1).toNatClampNeg), .int (xs (nI i + nI 2).toNatClampNeg)]) (rest := [.int v]) ⟨hx, hb, hml, hown, hts⟩ (m2 t1) (cwV 2 hts (gTV q182 q183 q184 q5 q185) rfl r5 r6 (by decide +kernel) ⟨by show rm2.frames + 1 ≤ 2048; omega, by show 8 + (4 + 11) + rm2.locals ≤ 84000; omega⟩) hK1 hP1 hD1 hS1 hA hE hAB (ci := 11) rfl he1 rfl rfl hl.1 rfl (Nat.le_of_ble_eq_true rfl) dL_law_255 ⟨by show uc + mc + 0 ≤ 66492; omega, by show us + ms + 0 ≤ 8902774; omega⟩ (fun w2 t2 H2 locs2 hQ2 hK2 hP2 hD2 hS2 => ?_)
  exact lv_icmp_eq (tgt := 582) hx hb dL_law_258 (by decide) (fun _ => nx _ _ _ _ _ _ _ (nxt _ _ _ _ hQ1 hQ2) b1 b2 hK2 (va_P_sw hP2) (va_D_sw hD2) hS2) (fun z => absurd rfl z)
set_option maxHeartbeats 4000000 in
set_option maxRecDepth 100000 in
theorem lc_clear {p : Program} {l : Launch} {e : Env} {s : State} {m : MethodId} {below : List Frame} {meth : Method} {c : Code} {H : Heap} {locs : List Loc} {Q : State → Prop} {dC : Nat → ClassId} {dI : Nat → Nat → Nat} {b L : Nat} {xs : Nat → Int32} {base : Nat × Nat × Nat} {pa pb : Nat} {ls : Array Slot} {i T uc us : Nat} {wc wm : va_W} {tys : TY} (C0 : lwX p s m c b L xs base) (hI : INV T uc us wc wm tys pa pb) (hT : T < 1000) (hi : i + 7 ≤ L) (hK : va_K (dC, dI) vwCl tys s) (hP : va_P (dC, dI) vwCl (wc ++ wm) H) (hD : va_D (aS s) (wc ++ wm)) (hS : va_S (aS s) s.heap H locs) (hl : lv_has ls 4 [(0, .ref b), (1, .ref pa), (2, .ref pb), (3, .int (nI i))]) (nx : NX p l e s m b below meth c dC dI pa pb ls Q (T + 1)) : W p l e room_1 s m #[Value.ref b] below meth c H locs uc us Q (F0 m 263 ls []) := by
  obtain ⟨hx, hb, hml, hown, hts, hX, hbl, hE, hbs, hL⟩ := C0
  have hA : ∀ q : Nat, s.heap.size ≤ q → aS s q := fun _ h => h
  have hAB : ∀ q : Nat, aS s q → base.1 ≤ q := fun _ h => Nat.le_trans hbs h
  have hbA : ¬ aS s b := Nat.not_le.mpr hbl
  refine lv_aload_n hx hb dL_law_263 rfl (lv_at hl 1 rfl) ?_
  obtain ⟨v, rm, rm2, mc, ms, QC, QM, m1, m2, ⟨r1, r2, r3, r4⟩, ⟨r5, r6, r7, r8⟩, ⟨q0, fs, he⟩, ⟨q1, fs1, he1⟩, ⟨b1, b2⟩, nxt⟩ := cs_clear (dC := dC) (dI := dI) hI hT 
  refine kQi (As := []) (rest := []) ⟨hx, hb, hml, hown, hts⟩ m1 (cwV 0 hts (gTV q186 q187 q188 q2 q189) rfl r1 r2 (by decide +kernel) ⟨by show rm.frames + 1 ≤ 2048; omega, by show 8 + (1 + 11) + rm.locals ≤ 84000; omega⟩) hK hP hD hS hA hE hAB (ci := 10) rfl he rfl rfl hl.1 rfl (Nat.le_of_ble_eq_true rfl) dL_law_264 ⟨by show uc + mc ≤ 66492; omega, by show us + ms ≤ 8902774; omega⟩ (fun w1 t1 H1 locs1 hQ1 hK1 hP1 hD1 hS1 => ?_)
  have hP1 := va_P_sw hP1
  have hD1 := va_D_sw hD1
  refine lv_aload_n hx hb dL_law_267 rfl (lv_at hl 2 rfl) ?_
  refine kQi (As := []) (rest := [.int v]) ⟨hx, hb, hml, hown, hts⟩ (m2 t1) (cwV 0 hts (gTV q198 q199 q200 q5 q201) rfl r5 r6 (by decide +kernel) ⟨by show rm2.frames + 1 ≤ 2048; omega, by show 8 + (3 + 11) + rm2.locals ≤ 84000; omega⟩) hK1 hP1 hD1 hS1 hA hE hAB (ci := 11) rfl he1 rfl rfl hl.1 rfl (Nat.le_of_ble_eq_true rfl) dL_law_268 ⟨by show uc + mc + 0 ≤ 66492; omega, by show us + ms + 0 ≤ 8902774; omega⟩ (fun w2 t2 H2 locs2 hQ2 hK2 hP2 hD2 hS2 => ?_)
  exact lv_icmp_eq (tgt := 582) hx hb dL_law_271 (by decide) (fun _ => nx _ _ _ _ _ _ _ (nxt _ _ _ _ hQ1 hQ2) b1 b2 hK2 (va_P_sw hP2) (va_D_sw hD2) hS2) (fun z => absurd rfl z)
set_option maxHeartbeats 4000000 in
set_option maxRecDepth 100000 in
theorem lc_drop {p : Program} {l : Launch} {e : Env} {s : State} {m : MethodId} {below : List Frame} {meth : Method} {c : Code} {H : Heap} {locs : List Loc} {Q : State → Prop} {dC : Nat → ClassId} {dI : Nat → Nat → Nat} {b L : Nat} {xs : Nat → Int32} {base : Nat × Nat × Nat} {pa pb : Nat} {ls : Array Slot} {i T uc us : Nat} {wc wm : va_W} {tys : TY} (C0 : lwX p s m c b L xs base) (hI : INV T uc us wc wm tys pa pb) (hT : T < 1000) (hi : i + 7 ≤ L) (hK : va_K (dC, dI) vwCl tys s) (hP : va_P (dC, dI) vwCl (wc ++ wm) H) (hD : va_D (aS s) (wc ++ wm)) (hS : va_S (aS s) s.heap H locs) (hl : lv_has ls 4 [(0, .ref b), (1, .ref pa), (2, .ref pb), (3, .int (nI i))]) (nx : NX p l e s m b below meth c dC dI pa pb ls Q (T + 1)) : W p l e room_1 s m #[Value.ref b] below meth c H locs uc us Q (F0 m 299 ls []) := by
  obtain ⟨hx, hb, hml, hown, hts, hX, hbl, hE, hbs, hL⟩ := C0
  have hA : ∀ q : Nat, s.heap.size ≤ q → aS s q := fun _ h => h
  have hAB : ∀ q : Nat, aS s q → base.1 ≤ q := fun _ h => Nat.le_trans hbs h
  have hbA : ¬ aS s b := Nat.not_le.mpr hbl
  refine lv_aload_n hx hb dL_law_299 rfl (lv_at hl 1 rfl) ?_
  obtain ⟨v, rm, rm2, mc, ms, QC, QM, m1, m2, ⟨r1, r2, r3, r4⟩, ⟨r5, r6, r7, r8⟩, ⟨q0, fs, he⟩, ⟨q1, fs1, he1⟩, ⟨b1, b2⟩, nxt⟩ := cs_drop (dC := dC) (dI := dI) hI hT 
  refine kQi (As := []) (rest := []) ⟨hx, hb, hml, hown, hts⟩ m1 (cwV 0 hts (gTV q217 q218 q219 q2 q220) rfl r1 r2 (by decide +kernel) ⟨by show rm.frames + 1 ≤ 2048; omega, by show 8 + (1 + 11) + rm.locals ≤ 84000; omega⟩) hK hP hD hS hA hE hAB (ci := 10) rfl he rfl rfl hl.1 rfl (Nat.le_of_ble_eq_true rfl) dL_law_300 ⟨by show uc + mc ≤ 66492; omega, by show us + ms ≤ 8902774; omega⟩ (fun w1 t1 H1 locs1 hQ1 hK1 hP1 hD1 hS1 => ?_)
  have hP1 := va_P_sw hP1
  have hD1 := va_D_sw hD1
  refine lv_aload_n hx hb dL_law_303 rfl (lv_at hl 2 rfl) ?_
  refine kQi (As := []) (rest := [.int v]) ⟨hx, hb, hml, hown, hts⟩ (m2 t1) (cwV 0 hts (gTV q225 q226 q227 q5 q228) rfl r5 r6 (by decide +kernel) ⟨by show rm2.frames + 1 ≤ 2048; omega, by show 8 + (2 + 11) + rm2.locals ≤ 84000; omega⟩) hK1 hP1 hD1 hS1 hA hE hAB (ci := 11) rfl he1 rfl rfl hl.1 rfl (Nat.le_of_ble_eq_true rfl) dL_law_304 ⟨by show uc + mc + 0 ≤ 66492; omega, by show us + ms + 0 ≤ 8902774; omega⟩ (fun w2 t2 H2 locs2 hQ2 hK2 hP2 hD2 hS2 => ?_)
  exact lv_icmp_eq (tgt := 582) hx hb dL_law_307 (by decide) (fun _ => nx _ _ _ _ _ _ _ (nxt _ _ _ _ hQ1 hQ2) b1 b2 hK2 (va_P_sw hP2) (va_D_sw hD2) hS2) (fun z => absurd rfl z)
set_option maxHeartbeats 4000000 in
set_option maxRecDepth 100000 in
theorem lc_lies {p : Program} {l : Launch} {e : Env} {s : State} {m : MethodId} {below : List Frame} {meth : Method} {c : Code} {H : Heap} {locs : List Loc} {Q : State → Prop} {dC : Nat → ClassId} {dI : Nat → Nat → Nat} {b L : Nat} {xs : Nat → Int32} {base : Nat × Nat × Nat} {pa pb : Nat} {ls : Array Slot} {i T uc us : Nat} {wc wm : va_W} {tys : TY} (C0 : lwX p s m c b L xs base) (hI : INV T uc us wc wm tys pa pb) (hT : T < 1000) (hi : i + 7 ≤ L) (hK : va_K (dC, dI) vwCl tys s) (hP : va_P (dC, dI) vwCl (wc ++ wm) H) (hD : va_D (aS s) (wc ++ wm)) (hS : va_S (aS s) s.heap H locs) (hl : lv_has ls 4 [(0, .ref b), (1, .ref pa), (2, .ref pb), (3, .int (nI i))]) (nx : NX p l e s m b below meth c dC dI pa pb ls Q (T + 1)) : W p l e room_1 s m #[Value.ref b] below meth c H locs uc us Q (F0 m 312 ls []) := by
  obtain ⟨hx, hb, hml, hown, hts, hX, hbl, hE, hbs, hL⟩ := C0
  have hA : ∀ q : Nat, s.heap.size ≤ q → aS s q := fun _ h => h
  have hAB : ∀ q : Nat, aS s q → base.1 ≤ q := fun _ h => Nat.le_trans hbs h
  have hbA : ¬ aS s b := Nat.not_le.mpr hbl
  refine lv_aload_n hx hb dL_law_312 rfl (lv_at hl 1 rfl) ?_
  refine lv_aload_n hx hb dL_law_313 rfl (lv_at hl 0 rfl) ?_
  refine lv_iload_n hx hb dL_law_314 rfl (lv_at hl 3 rfl) ?_
  refine lv_iconst (v := nI 1) hx hb dL_law_315 (by decide) ?_
  refine lv_iadd hx hb dL_law_316 ?_
  refine va_sld hx hb hX hbl hbA hS (in_ij (by omega) hL) dL_law_317 ?_
  obtain ⟨v, rm, rm2, mc, ms, QC, QM, m1, m2, ⟨r1, r2, r3, r4⟩, ⟨r5, r6, r7, r8⟩, ⟨q0, fs, he⟩, ⟨q1, fs1, he1⟩, ⟨b1, b2⟩, nxt⟩ := cs_lies (dC := dC) (dI := dI) hI hT (xs (nI i + nI 1).toNatClampNeg)
  refine kQi (As := [.int (xs (nI i + nI 1).toNatClampNeg)]) (rest := []) ⟨hx, hb, hml, hown, hts⟩ m1 (cwV 1 hts (gTV q229 q230 q231 q2 q232) rfl r1 r2 (by decide +kernel) ⟨by show rm.frames + 1 ≤ 2048; omega, by show 8 + (2 + 11) + rm.locals ≤ 84000; omega⟩) hK hP hD hS hA hE hAB (ci := 10) rfl he rfl rfl hl.1 rfl (Nat.le_of_ble_eq_true rfl) dL_law_318 ⟨by show uc + mc ≤ 66492; omega, by show us + ms ≤ 8902774; omega⟩ (fun w1 t1 H1 locs1 hQ1 hK1 hP1 hD1 hS1 => ?_)
  have hP1 := va_P_sw hP1
  have hD1 := va_D_sw hD1
  refine lv_aload_n hx hb dL_law_321 rfl (lv_at hl 2 rfl) ?_
  refine lv_aload_n hx hb dL_law_322 rfl (lv_at hl 0 rfl) ?_
  refine lv_iload_n hx hb dL_law_323 rfl (lv_at hl 3 rfl) ?_
  refine lv_iconst (v := nI 1) hx hb dL_law_324 (by decide) ?_
  refine lv_iadd hx hb dL_law_325 ?_
  refine va_sld hx hb hX hbl hbA hS1 (in_ij (by omega) hL) dL_law_326 ?_
  refine kQi (As := [.int (xs (nI i + nI 1).toNatClampNeg)]) (rest := [.int v]) ⟨hx, hb, hml, hown, hts⟩ (m2 t1) (cwV 1 hts (gTV q241 q242 q243 q5 q244) rfl r5 r6 (by decide +kernel) ⟨by show rm2.frames + 1 ≤ 2048; omega, by show 8 + (7 + 11) + rm2.locals ≤ 84000; omega⟩) hK1 hP1 hD1 hS1 hA hE hAB (ci := 11) rfl he1 rfl rfl hl.1 rfl (Nat.le_of_ble_eq_true rfl) dL_law_327 ⟨by show uc + mc + 0 ≤ 66492; omega, by show us + ms + 0 ≤ 8902774; omega⟩ (fun w2 t2 H2 locs2 hQ2 hK2 hP2 hD2 hS2 => ?_)
  exact lv_icmp_eq (tgt := 582) hx hb dL_law_330 (by decide) (fun _ => nx _ _ _ _ _ _ _ (nxt _ _ _ _ hQ1 hQ2) b1 b2 hK2 (va_P_sw hP2) (va_D_sw hD2) hS2) (fun z => absurd rfl z)
set_option maxHeartbeats 4000000 in
set_option maxRecDepth 100000 in
theorem lc_far {p : Program} {l : Launch} {e : Env} {s : State} {m : MethodId} {below : List Frame} {meth : Method} {c : Code} {H : Heap} {locs : List Loc} {Q : State → Prop} {dC : Nat → ClassId} {dI : Nat → Nat → Nat} {b L : Nat} {xs : Nat → Int32} {base : Nat × Nat × Nat} {pa pb : Nat} {ls : Array Slot} {i T uc us : Nat} {wc wm : va_W} {tys : TY} (C0 : lwX p s m c b L xs base) (hI : INV T uc us wc wm tys pa pb) (hT : T < 1000) (hi : i + 7 ≤ L) (hK : va_K (dC, dI) vwCl tys s) (hP : va_P (dC, dI) vwCl (wc ++ wm) H) (hD : va_D (aS s) (wc ++ wm)) (hS : va_S (aS s) s.heap H locs) (hl : lv_has ls 4 [(0, .ref b), (1, .ref pa), (2, .ref pb), (3, .int (nI i))]) (nx : NX p l e s m b below meth c dC dI pa pb ls Q (T + 1)) : W p l e room_1 s m #[Value.ref b] below meth c H locs uc us Q (F0 m 335 ls []) := by
  obtain ⟨hx, hb, hml, hown, hts, hX, hbl, hE, hbs, hL⟩ := C0
  have hA : ∀ q : Nat, s.heap.size ≤ q → aS s q := fun _ h => h
  have hAB : ∀ q : Nat, aS s q → base.1 ≤ q := fun _ h => Nat.le_trans hbs h
  have hbA : ¬ aS s b := Nat.not_le.mpr hbl
  refine lv_aload_n hx hb dL_law_335 rfl (lv_at hl 1 rfl) ?_
  refine lv_aload_n hx hb dL_law_336 rfl (lv_at hl 0 rfl) ?_
  refine lv_iload_n hx hb dL_law_337 rfl (lv_at hl 3 rfl) ?_
  refine lv_iconst (v := nI 1) hx hb dL_law_338 (by decide) ?_
  refine lv_iadd hx hb dL_law_339 ?_
  refine va_sld hx hb hX hbl hbA hS (in_ij (by omega) hL) dL_law_340 ?_
  obtain ⟨v, rm, rm2, mc, ms, QC, QM, m1, m2, ⟨r1, r2, r3, r4⟩, ⟨r5, r6, r7, r8⟩, ⟨q0, fs, he⟩, ⟨q1, fs1, he1⟩, ⟨b1, b2⟩, nxt⟩ := cs_far (dC := dC) (dI := dI) hI hT (xs (nI i + nI 1).toNatClampNeg)
  refine kQi (As := [.int (xs (nI i + nI 1).toNatClampNeg)]) (rest := []) ⟨hx, hb, hml, hown, hts⟩ m1 (cwV 1 hts (gTV q249 q250 q251 q2 q252) rfl r1 r2 (by decide +kernel) ⟨by show rm.frames + 1 ≤ 2048; omega, by show 8 + (3 + 11) + rm.locals ≤ 84000; omega⟩) hK hP hD hS hA hE hAB (ci := 10) rfl he rfl rfl hl.1 rfl (Nat.le_of_ble_eq_true rfl) dL_law_341 ⟨by show uc + mc ≤ 66492; omega, by show us + ms ≤ 8902774; omega⟩ (fun w1 t1 H1 locs1 hQ1 hK1 hP1 hD1 hS1 => ?_)
  have hP1 := va_P_sw hP1
  have hD1 := va_D_sw hD1
  refine lv_aload_n hx hb dL_law_344 rfl (lv_at hl 2 rfl) ?_
  refine lv_aload_n hx hb dL_law_345 rfl (lv_at hl 0 rfl) ?_
  refine lv_iload_n hx hb dL_law_346 rfl (lv_at hl 3 rfl) ?_
  refine lv_iconst (v := nI 1) hx hb dL_law_347 (by decide) ?_
  refine lv_iadd hx hb dL_law_348 ?_
  refine va_sld hx hb hX hbl hbA hS1 (in_ij (by omega) hL) dL_law_349 ?_
  refine kQi (As := [.int (xs (nI i + nI 1).toNatClampNeg)]) (rest := [.int v]) ⟨hx, hb, hml, hown, hts⟩ (m2 t1) (cwV 1 hts (gTV q350 q351 q352 q5 q353) rfl r5 r6 (by decide +kernel) ⟨by show rm2.frames + 1 ≤ 2048; omega, by show 8 + (3 + 11) + rm2.locals ≤ 84000; omega⟩) hK1 hP1 hD1 hS1 hA hE hAB (ci := 11) rfl he1 rfl rfl hl.1 rfl (Nat.le_of_ble_eq_true rfl) dL_law_350 ⟨by show uc + mc + 0 ≤ 66492; omega, by show us + ms + 0 ≤ 8902774; omega⟩ (fun w2 t2 H2 locs2 hQ2 hK2 hP2 hD2 hS2 => ?_)
  exact lv_icmp_eq (tgt := 582) hx hb dL_law_353 (by decide) (fun _ => nx _ _ _ _ _ _ _ (nxt _ _ _ _ hQ1 hQ2) b1 b2 hK2 (va_P_sw hP2) (va_D_sw hD2) hS2) (fun z => absurd rfl z)
set_option maxHeartbeats 4000000 in
set_option maxRecDepth 100000 in
theorem lc_way {p : Program} {l : Launch} {e : Env} {s : State} {m : MethodId} {below : List Frame} {meth : Method} {c : Code} {H : Heap} {locs : List Loc} {Q : State → Prop} {dC : Nat → ClassId} {dI : Nat → Nat → Nat} {b L : Nat} {xs : Nat → Int32} {base : Nat × Nat × Nat} {pa pb : Nat} {ls : Array Slot} {i T uc us : Nat} {wc wm : va_W} {tys : TY} (C0 : lwX p s m c b L xs base) (hI : INV T uc us wc wm tys pa pb) (hT : T < 1000) (hi : i + 7 ≤ L) (hK : va_K (dC, dI) vwCl tys s) (hP : va_P (dC, dI) vwCl (wc ++ wm) H) (hD : va_D (aS s) (wc ++ wm)) (hS : va_S (aS s) s.heap H locs) (hl : lv_has ls 4 [(0, .ref b), (1, .ref pa), (2, .ref pb), (3, .int (nI i))]) (nx : NX p l e s m b below meth c dC dI pa pb ls Q (T + 1)) : W p l e room_1 s m #[Value.ref b] below meth c H locs uc us Q (F0 m 358 ls []) := by
  obtain ⟨hx, hb, hml, hown, hts, hX, hbl, hE, hbs, hL⟩ := C0
  have hA : ∀ q : Nat, s.heap.size ≤ q → aS s q := fun _ h => h
  have hAB : ∀ q : Nat, aS s q → base.1 ≤ q := fun _ h => Nat.le_trans hbs h
  have hbA : ¬ aS s b := Nat.not_le.mpr hbl
  refine lv_aload_n hx hb dL_law_358 rfl (lv_at hl 1 rfl) ?_
  refine lv_aload_n hx hb dL_law_359 rfl (lv_at hl 0 rfl) ?_
  refine lv_iload_n hx hb dL_law_360 rfl (lv_at hl 3 rfl) ?_
  refine lv_iconst (v := nI 1) hx hb dL_law_361 (by decide) ?_
  refine lv_iadd hx hb dL_law_362 ?_
  refine va_sld hx hb hX hbl hbA hS (in_ij (by omega) hL) dL_law_363 ?_
  refine lv_aload_n hx hb dL_law_364 rfl (lv_at hl 0 rfl) ?_
  refine lv_iload_n hx hb dL_law_365 rfl (lv_at hl 3 rfl) ?_
  refine lv_iconst (v := nI 2) hx hb dL_law_366 (by decide) ?_
  refine lv_iadd hx hb dL_law_367 ?_
  refine va_sld hx hb hX hbl hbA hS (in_ij (by omega) hL) dL_law_368 ?_
  obtain ⟨v, rm, rm2, mc, ms, QC, QM, m1, m2, ⟨r1, r2, r3, r4⟩, ⟨r5, r6, r7, r8⟩, ⟨q0, fs, he⟩, ⟨q1, fs1, he1⟩, ⟨b1, b2⟩, nxt⟩ := cs_way (dC := dC) (dI := dI) hI hT (xs (nI i + nI 1).toNatClampNeg) (xs (nI i + nI 2).toNatClampNeg)
  refine kQi (As := [.int (xs (nI i + nI 1).toNatClampNeg), .int (xs (nI i + nI 2).toNatClampNeg)]) (rest := []) ⟨hx, hb, hml, hown, hts⟩ m1 (cwV 2 hts (gTV q375 q376 q377 q2 q378) rfl r1 r2 (by decide +kernel) ⟨by show rm.frames + 1 ≤ 2048; omega, by show 8 + (3 + 11) + rm.locals ≤ 84000; omega⟩) hK hP hD hS hA hE hAB (ci := 10) rfl he rfl rfl hl.1 rfl (Nat.le_of_ble_eq_true rfl) dL_law_369 ⟨by show uc + mc ≤ 66492; omega, by show us + ms ≤ 8902774; omega⟩ (fun w1 t1 H1 locs1 hQ1 hK1 hP1 hD1 hS1 => ?_)
  have hP1 := va_P_sw hP1
  have hD1 := va_D_sw hD1
  refine lv_aload_n hx hb dL_law_372 rfl (lv_at hl 2 rfl) ?_
  refine lv_aload_n hx hb dL_law_373 rfl (lv_at hl 0 rfl) ?_
  refine lv_iload_n hx hb dL_law_374 rfl (lv_at hl 3 rfl) ?_
  refine lv_iconst (v := nI 1) hx hb dL_law_375 (by decide) ?_
  refine lv_iadd hx hb dL_law_376 ?_
  refine va_sld hx hb hX hbl hbA hS1 (in_ij (by omega) hL) dL_law_377 ?_
  refine lv_aload_n hx hb dL_law_378 rfl (lv_at hl 0 rfl) ?_
  refine lv_iload_n hx hb dL_law_379 rfl (lv_at hl 3 rfl) ?_
  refine lv_iconst (v := nI 2) hx hb dL_law_380 (by decide) ?_
  refine lv_iadd hx hb dL_law_381 ?_
  refine va_sld hx hb hX hbl hbA hS1 (in_ij (by omega) hL) dL_law_382 ?_
  refine kQi (As := [.int (xs (nI i + nI 1).toNatClampNeg), .int (xs (nI i + nI 2).toNatClampNeg)]) (rest := [.int v]) ⟨hx, hb, hml, hown, hts⟩ (m2 t1) (cwV 2 hts (gTV q444 q445 q446 q5 q447) rfl r5 r6 (by decide +kernel) ⟨by show rm2.frames + 1 ≤ 2048; omega, by show 8 + (3 + 11) + rm2.locals ≤ 84000; omega⟩) hK1 hP1 hD1 hS1 hA hE hAB (ci := 11) rfl he1 rfl rfl hl.1 rfl (Nat.le_of_ble_eq_true rfl) dL_law_383 ⟨by show uc + mc + 0 ≤ 66492; omega, by show us + ms + 0 ≤ 8902774; omega⟩ (fun w2 t2 H2 locs2 hQ2 hK2 hP2 hD2 hS2 => ?_)
  exact lv_icmp_eq (tgt := 582) hx hb dL_law_386 (by decide) (fun _ => nx _ _ _ _ _ _ _ (nxt _ _ _ _ hQ1 hQ2) b1 b2 hK2 (va_P_sw hP2) (va_D_sw hD2) hS2) (fun z => absurd rfl z)
set_option maxHeartbeats 4000000 in
set_option maxRecDepth 100000 in
theorem lc_after {p : Program} {l : Launch} {e : Env} {s : State} {m : MethodId} {below : List Frame} {meth : Method} {c : Code} {H : Heap} {locs : List Loc} {Q : State → Prop} {dC : Nat → ClassId} {dI : Nat → Nat → Nat} {b L : Nat} {xs : Nat → Int32} {base : Nat × Nat × Nat} {pa pb : Nat} {ls : Array Slot} {i T uc us : Nat} {wc wm : va_W} {tys : TY} (C0 : lwX p s m c b L xs base) (hI : INV T uc us wc wm tys pa pb) (hT : T < 1000) (hi : i + 7 ≤ L) (hK : va_K (dC, dI) vwCl tys s) (hP : va_P (dC, dI) vwCl (wc ++ wm) H) (hD : va_D (aS s) (wc ++ wm)) (hS : va_S (aS s) s.heap H locs) (hl : lv_has ls 4 [(0, .ref b), (1, .ref pa), (2, .ref pb), (3, .int (nI i))]) (nx : NX p l e s m b below meth c dC dI pa pb ls Q (T + 1)) : W p l e room_1 s m #[Value.ref b] below meth c H locs uc us Q (F0 m 391 ls []) := by
  obtain ⟨hx, hb, hml, hown, hts, hX, hbl, hE, hbs, hL⟩ := C0
  have hA : ∀ q : Nat, s.heap.size ≤ q → aS s q := fun _ h => h
  have hAB : ∀ q : Nat, aS s q → base.1 ≤ q := fun _ h => Nat.le_trans hbs h
  have hbA : ¬ aS s b := Nat.not_le.mpr hbl
  refine lv_aload_n hx hb dL_law_391 rfl (lv_at hl 1 rfl) ?_
  refine lv_aload_n hx hb dL_law_392 rfl (lv_at hl 0 rfl) ?_
  refine lv_iload_n hx hb dL_law_393 rfl (lv_at hl 3 rfl) ?_
  refine lv_iconst (v := nI 1) hx hb dL_law_394 (by decide) ?_
  refine lv_iadd hx hb dL_law_395 ?_
  refine va_sld hx hb hX hbl hbA hS (in_ij (by omega) hL) dL_law_396 ?_
  obtain ⟨v, rm, rm2, mc, ms, QC, QM, m1, m2, ⟨r1, r2, r3, r4⟩, ⟨r5, r6, r7, r8⟩, ⟨q0, fs, he⟩, ⟨q1, fs1, he1⟩, ⟨b1, b2⟩, nxt⟩ := cs_after (dC := dC) (dI := dI) hI hT (xs (nI i + nI 1).toNatClampNeg)
  refine kQi (As := [.int (xs (nI i + nI 1).toNatClampNeg)]) (rest := []) ⟨hx, hb, hml, hown, hts⟩ m1 (cwV 1 hts (gTV q453 q454 q455 q2 q456) rfl r1 r2 (by decide +kernel) ⟨by show rm.frames + 1 ≤ 2048; omega, by show 8 + (2 + 11) + rm.locals ≤ 84000; omega⟩) hK hP hD hS hA hE hAB (ci := 10) rfl he rfl rfl hl.1 rfl (Nat.le_of_ble_eq_true rfl) dL_law_397 ⟨by show uc + mc ≤ 66492; omega, by show us + ms ≤ 8902774; omega⟩ (fun w1 t1 H1 locs1 hQ1 hK1 hP1 hD1 hS1 => ?_)
  have hP1 := va_P_sw hP1
  have hD1 := va_D_sw hD1
  refine lv_aload_n hx hb dL_law_400 rfl (lv_at hl 2 rfl) ?_
  refine lv_aload_n hx hb dL_law_401 rfl (lv_at hl 0 rfl) ?_
  refine lv_iload_n hx hb dL_law_402 rfl (lv_at hl 3 rfl) ?_
  refine lv_iconst (v := nI 1) hx hb dL_law_403 (by decide) ?_
  refine lv_iadd hx hb dL_law_404 ?_
  refine va_sld hx hb hX hbl hbA hS1 (in_ij (by omega) hL) dL_law_405 ?_
  refine kQi (As := [.int (xs (nI i + nI 1).toNatClampNeg)]) (rest := [.int v]) ⟨hx, hb, hml, hown, hts⟩ (m2 t1) (cwV 1 hts (gTV q505 q506 q507 q5 q508) rfl r5 r6 (by decide +kernel) ⟨by show rm2.frames + 1 ≤ 2048; omega, by show 8 + (6 + 11) + rm2.locals ≤ 84000; omega⟩) hK1 hP1 hD1 hS1 hA hE hAB (ci := 11) rfl he1 rfl rfl hl.1 rfl (Nat.le_of_ble_eq_true rfl) dL_law_406 ⟨by show uc + mc + 0 ≤ 66492; omega, by show us + ms + 0 ≤ 8902774; omega⟩ (fun w2 t2 H2 locs2 hQ2 hK2 hP2 hD2 hS2 => ?_)
  exact lv_icmp_eq (tgt := 582) hx hb dL_law_409 (by decide) (fun _ => nx _ _ _ _ _ _ _ (nxt _ _ _ _ hQ1 hQ2) b1 b2 hK2 (va_P_sw hP2) (va_D_sw hD2) hS2) (fun z => absurd rfl z)
set_option maxHeartbeats 4000000 in
set_option maxRecDepth 100000 in
theorem lc_type {p : Program} {l : Launch} {e : Env} {s : State} {m : MethodId} {below : List Frame} {meth : Method} {c : Code} {H : Heap} {locs : List Loc} {Q : State → Prop} {dC : Nat → ClassId} {dI : Nat → Nat → Nat} {b L : Nat} {xs : Nat → Int32} {base : Nat × Nat × Nat} {pa pb : Nat} {ls : Array Slot} {i T uc us : Nat} {wc wm : va_W} {tys : TY} (C0 : lwX p s m c b L xs base) (hI : INV T uc us wc wm tys pa pb) (hT : T < 1000) (hi : i + 7 ≤ L) (hK : va_K (dC, dI) vwCl tys s) (hP : va_P (dC, dI) vwCl (wc ++ wm) H) (hD : va_D (aS s) (wc ++ wm)) (hS : va_S (aS s) s.heap H locs) (hl : lv_has ls 4 [(0, .ref b), (1, .ref pa), (2, .ref pb), (3, .int (nI i))]) (nx : NX p l e s m b below meth c dC dI pa pb ls Q (T + 1)) : W p l e room_1 s m #[Value.ref b] below meth c H locs uc us Q (F0 m 414 ls []) := by
  obtain ⟨hx, hb, hml, hown, hts, hX, hbl, hE, hbs, hL⟩ := C0
  have hA : ∀ q : Nat, s.heap.size ≤ q → aS s q := fun _ h => h
  have hAB : ∀ q : Nat, aS s q → base.1 ≤ q := fun _ h => Nat.le_trans hbs h
  have hbA : ¬ aS s b := Nat.not_le.mpr hbl
  refine lv_aload_n hx hb dL_law_414 rfl (lv_at hl 1 rfl) ?_
  refine lv_aload_n hx hb dL_law_415 rfl (lv_at hl 0 rfl) ?_
  refine lv_iload_n hx hb dL_law_416 rfl (lv_at hl 3 rfl) ?_
  refine lv_iconst (v := nI 1) hx hb dL_law_417 (by decide) ?_
  refine lv_iadd hx hb dL_law_418 ?_
  refine va_sld hx hb hX hbl hbA hS (in_ij (by omega) hL) dL_law_419 ?_
  refine lv_i2l hx hb dL_law_420 rfl ?_
  refine lv_bipush (v := nI 32) hx hb dL_law_421 (by decide) ?_
  refine lv_lshl hx hb dL_law_423 rfl ?_
  refine lv_aload_n hx hb dL_law_424 rfl (lv_at hl 0 rfl) ?_
  refine lv_iload_n hx hb dL_law_425 rfl (lv_at hl 3 rfl) ?_
  refine lv_iconst (v := nI 2) hx hb dL_law_426 (by decide) ?_
  refine lv_iadd hx hb dL_law_427 ?_
  refine va_sld hx hb hX hbl hbA hS (in_ij (by omega) hL) dL_law_428 ?_
  refine lv_i2l hx hb dL_law_429 rfl ?_
  refine lv_ldc2 (v := 4294967295) hx hb hown (hts _ q6) dL_law_430 ?_
  refine lv_land hx hb dL_law_433 ?_
  refine lv_lor hx hb dL_law_434 ?_
  refine lv_aload_n hx hb dL_law_435 rfl (lv_at hl 0 rfl) ?_
  refine lv_iload_n hx hb dL_law_436 rfl (lv_at hl 3 rfl) ?_
  refine lv_iconst (v := nI 3) hx hb dL_law_437 (by decide) ?_
  refine lv_iadd hx hb dL_law_438 ?_
  refine va_sld hx hb hX hbl hbA hS (in_ij (by omega) hL) dL_law_439 ?_
  obtain ⟨v, rm, rm2, mc, ms, QC, QM, m1, m2, ⟨r1, r2, r3, r4⟩, ⟨r5, r6, r7, r8⟩, ⟨q0, fs, he⟩, ⟨q1, fs1, he1⟩, ⟨b1, b2⟩, nxt⟩ := cs_type (dC := dC) (dI := dI) hI hT ((((xs (nI i + nI 1).toNatClampNeg).toInt64) <<< ((nI 32).toInt64 &&& 63)) ||| (((xs (nI i + nI 2).toNatClampNeg).toInt64) &&& (4294967295))) (xs (nI i + nI 3).toNatClampNeg)
  refine kQi (As := [.long ((((xs (nI i + nI 1).toNatClampNeg).toInt64) <<< ((nI 32).toInt64 &&& 63)) ||| (((xs (nI i + nI 2).toNatClampNeg).toInt64) &&& (4294967295))), .int (xs (nI i + nI 3).toNatClampNeg)]) (rest := []) ⟨hx, hb, hml, hown, hts⟩ m1 (cwV 2 hts (gTV q517 q518 q519 q2 q520) rfl r1 r2 (by decide +kernel) ⟨by show rm.frames + 1 ≤ 2048; omega, by show 8 + (4 + 11) + rm.locals ≤ 84000; omega⟩) hK hP hD hS hA hE hAB (ci := 10) rfl he rfl rfl hl.1 rfl (Nat.le_of_ble_eq_true rfl) dL_law_440 ⟨by show uc + mc ≤ 66492; omega, by show us + ms ≤ 8902774; omega⟩ (fun w1 t1 H1 locs1 hQ1 hK1 hP1 hD1 hS1 => ?_)
  have hP1 := va_P_sw hP1
  have hD1 := va_D_sw hD1
  refine lv_aload_n hx hb dL_law_443 rfl (lv_at hl 2 rfl) ?_
  refine lv_aload_n hx hb dL_law_444 rfl (lv_at hl 0 rfl) ?_
  refine lv_iload_n hx hb dL_law_445 rfl (lv_at hl 3 rfl) ?_
  refine lv_iconst (v := nI 1) hx hb dL_law_446 (by decide) ?_
  refine lv_iadd hx hb dL_law_447 ?_
  refine va_sld hx hb hX hbl hbA hS1 (in_ij (by omega) hL) dL_law_448 ?_
  refine lv_i2l hx hb dL_law_449 rfl ?_
  refine lv_bipush (v := nI 32) hx hb dL_law_450 (by decide) ?_
  refine lv_lshl hx hb dL_law_452 rfl ?_
  refine lv_aload_n hx hb dL_law_453 rfl (lv_at hl 0 rfl) ?_
  refine lv_iload_n hx hb dL_law_454 rfl (lv_at hl 3 rfl) ?_
  refine lv_iconst (v := nI 2) hx hb dL_law_455 (by decide) ?_
  refine lv_iadd hx hb dL_law_456 ?_
  refine va_sld hx hb hX hbl hbA hS1 (in_ij (by omega) hL) dL_law_457 ?_
  refine lv_i2l hx hb dL_law_458 rfl ?_
  refine lv_ldc2 (v := 4294967295) hx hb hown (hts _ q6) dL_law_459 ?_
  refine lv_land hx hb dL_law_462 ?_
  refine lv_lor hx hb dL_law_463 ?_
  refine lv_aload_n hx hb dL_law_464 rfl (lv_at hl 0 rfl) ?_
  refine lv_iload_n hx hb dL_law_465 rfl (lv_at hl 3 rfl) ?_
  refine lv_iconst (v := nI 3) hx hb dL_law_466 (by decide) ?_
  refine lv_iadd hx hb dL_law_467 ?_
  refine va_sld hx hb hX hbl hbA hS1 (in_ij (by omega) hL) dL_law_468 ?_
  refine kQi (As := [.long ((((xs (nI i + nI 1).toNatClampNeg).toInt64) <<< ((nI 32).toInt64 &&& 63)) ||| (((xs (nI i + nI 2).toNatClampNeg).toInt64) &&& (4294967295))), .int (xs (nI i + nI 3).toNatClampNeg)]) (rest := [.int v]) ⟨hx, hb, hml, hown, hts⟩ (m2 t1) (cwV 2 hts (gTV q526 q527 q528 q5 q529) rfl r5 r6 (by decide +kernel) ⟨by show rm2.frames + 1 ≤ 2048; omega, by show 8 + (5 + 11) + rm2.locals ≤ 84000; omega⟩) hK1 hP1 hD1 hS1 hA hE hAB (ci := 11) rfl he1 rfl rfl hl.1 rfl (Nat.le_of_ble_eq_true rfl) dL_law_469 ⟨by show uc + mc + 0 ≤ 66492; omega, by show us + ms + 0 ≤ 8902774; omega⟩ (fun w2 t2 H2 locs2 hQ2 hK2 hP2 hD2 hS2 => ?_)
  exact lv_icmp_eq (tgt := 582) hx hb dL_law_472 (by decide) (fun _ => nx _ _ _ _ _ _ _ (nxt _ _ _ _ hQ1 hQ2) b1 b2 hK2 (va_P_sw hP2) (va_D_sw hD2) hS2) (fun z => absurd rfl z)
set_option maxHeartbeats 4000000 in
set_option maxRecDepth 100000 in
theorem lc_read {p : Program} {l : Launch} {e : Env} {s : State} {m : MethodId} {below : List Frame} {meth : Method} {c : Code} {H : Heap} {locs : List Loc} {Q : State → Prop} {dC : Nat → ClassId} {dI : Nat → Nat → Nat} {b L : Nat} {xs : Nat → Int32} {base : Nat × Nat × Nat} {pa pb : Nat} {ls : Array Slot} {i T uc us : Nat} {wc wm : va_W} {tys : TY} (C0 : lwX p s m c b L xs base) (hI : INV T uc us wc wm tys pa pb) (hT : T < 1000) (hi : i + 7 ≤ L) (hK : va_K (dC, dI) vwCl tys s) (hP : va_P (dC, dI) vwCl (wc ++ wm) H) (hD : va_D (aS s) (wc ++ wm)) (hS : va_S (aS s) s.heap H locs) (hl : lv_has ls 4 [(0, .ref b), (1, .ref pa), (2, .ref pb), (3, .int (nI i))]) (nx : NX p l e s m b below meth c dC dI pa pb ls Q (T + 1)) : W p l e room_1 s m #[Value.ref b] below meth c H locs uc us Q (F0 m 477 ls []) := by
  obtain ⟨hx, hb, hml, hown, hts, hX, hbl, hE, hbs, hL⟩ := C0
  have hA : ∀ q : Nat, s.heap.size ≤ q → aS s q := fun _ h => h
  have hAB : ∀ q : Nat, aS s q → base.1 ≤ q := fun _ h => Nat.le_trans hbs h
  have hbA : ¬ aS s b := Nat.not_le.mpr hbl
  refine lv_aload_n hx hb dL_law_477 rfl (lv_at hl 1 rfl) ?_
  obtain ⟨v, rm, rm2, mc, ms, QC, QM, m1, m2, ⟨r1, r2, r3, r4⟩, ⟨r5, r6, r7, r8⟩, ⟨q0, fs, he⟩, ⟨q1, fs1, he1⟩, ⟨b1, b2⟩, nxt⟩ := cs_read (dC := dC) (dI := dI) hI hT 
  refine kQi (As := []) (rest := []) ⟨hx, hb, hml, hown, hts⟩ m1 (cwV 0 hts (gTV q532 q533 q534 q2 q535) rfl r1 r2 (by decide +kernel) ⟨by show rm.frames + 1 ≤ 2048; omega, by show 8 + (1 + 11) + rm.locals ≤ 84000; omega⟩) hK hP hD hS hA hE hAB (ci := 10) rfl he rfl rfl hl.1 rfl (Nat.le_of_ble_eq_true rfl) dL_law_478 ⟨by show uc + mc ≤ 66492; omega, by show us + ms ≤ 8902774; omega⟩ (fun w1 t1 H1 locs1 hQ1 hK1 hP1 hD1 hS1 => ?_)
  have hP1 := va_P_sw hP1
  have hD1 := va_D_sw hD1
  refine lv_aload_n hx hb dL_law_481 rfl (lv_at hl 2 rfl) ?_
  refine kQi (As := []) (rest := [.int v]) ⟨hx, hb, hml, hown, hts⟩ (m2 t1) (cwV 0 hts (gTV q789 q790 q791 q5 q792) rfl r5 r6 (by decide +kernel) ⟨by show rm2.frames + 1 ≤ 2048; omega, by show 8 + (1 + 11) + rm2.locals ≤ 84000; omega⟩) hK1 hP1 hD1 hS1 hA hE hAB (ci := 11) rfl he1 rfl rfl hl.1 rfl (Nat.le_of_ble_eq_true rfl) dL_law_482 ⟨by show uc + mc + 0 ≤ 66492; omega, by show us + ms + 0 ≤ 8902774; omega⟩ (fun w2 t2 H2 locs2 hQ2 hK2 hP2 hD2 hS2 => ?_)
  exact lv_icmp_eq (tgt := 582) hx hb dL_law_485 (by decide) (fun _ => nx _ _ _ _ _ _ _ (nxt _ _ _ _ hQ1 hQ2) b1 b2 hK2 (va_P_sw hP2) (va_D_sw hD2) hS2) (fun z => absurd rfl z)
set_option maxHeartbeats 4000000 in
set_option maxRecDepth 100000 in
theorem lc_place {p : Program} {l : Launch} {e : Env} {s : State} {m : MethodId} {below : List Frame} {meth : Method} {c : Code} {H : Heap} {locs : List Loc} {Q : State → Prop} {dC : Nat → ClassId} {dI : Nat → Nat → Nat} {b L : Nat} {xs : Nat → Int32} {base : Nat × Nat × Nat} {pa pb : Nat} {ls : Array Slot} {i T uc us : Nat} {wc wm : va_W} {tys : TY} (C0 : lwX p s m c b L xs base) (hI : INV T uc us wc wm tys pa pb) (hT : T < 1000) (hi : i + 7 ≤ L) (hK : va_K (dC, dI) vwCl tys s) (hP : va_P (dC, dI) vwCl (wc ++ wm) H) (hD : va_D (aS s) (wc ++ wm)) (hS : va_S (aS s) s.heap H locs) (hl : lv_has ls 4 [(0, .ref b), (1, .ref pa), (2, .ref pb), (3, .int (nI i))]) (nx : NX p l e s m b below meth c dC dI pa pb ls Q (T + 1)) : W p l e room_1 s m #[Value.ref b] below meth c H locs uc us Q (F0 m 490 ls []) := by
  obtain ⟨hx, hb, hml, hown, hts, hX, hbl, hE, hbs, hL⟩ := C0
  have hA : ∀ q : Nat, s.heap.size ≤ q → aS s q := fun _ h => h
  have hAB : ∀ q : Nat, aS s q → base.1 ≤ q := fun _ h => Nat.le_trans hbs h
  have hbA : ¬ aS s b := Nat.not_le.mpr hbl
  refine lv_aload_n hx hb dL_law_490 rfl (lv_at hl 1 rfl) ?_
  obtain ⟨v, rm, rm2, mc, ms, QC, QM, m1, m2, ⟨r1, r2, r3, r4⟩, ⟨r5, r6, r7, r8⟩, ⟨q0, fs, he⟩, ⟨q1, fs1, he1⟩, ⟨b1, b2⟩, nxt⟩ := cs_place (dC := dC) (dI := dI) hI hT 
  refine kQi (As := []) (rest := []) ⟨hx, hb, hml, hown, hts⟩ m1 (cwV 0 hts (gTV q910 q911 q912 q2 q913) rfl r1 r2 (by decide +kernel) ⟨by show rm.frames + 1 ≤ 2048; omega, by show 8 + (1 + 11) + rm.locals ≤ 84000; omega⟩) hK hP hD hS hA hE hAB (ci := 10) rfl he rfl rfl hl.1 rfl (Nat.le_of_ble_eq_true rfl) dL_law_491 ⟨by show uc + mc ≤ 66492; omega, by show us + ms ≤ 8902774; omega⟩ (fun w1 t1 H1 locs1 hQ1 hK1 hP1 hD1 hS1 => ?_)
  have hP1 := va_P_sw hP1
  have hD1 := va_D_sw hD1
  refine lv_aload_n hx hb dL_law_494 rfl (lv_at hl 2 rfl) ?_
  refine kQi (As := []) (rest := [.int v]) ⟨hx, hb, hml, hown, hts⟩ (m2 t1) (cwV 0 hts (gTV q915 q916 q917 q5 q918) rfl r5 r6 (by decide +kernel) ⟨by show rm2.frames + 1 ≤ 2048; omega, by show 8 + (1 + 11) + rm2.locals ≤ 84000; omega⟩) hK1 hP1 hD1 hS1 hA hE hAB (ci := 11) rfl he1 rfl rfl hl.1 rfl (Nat.le_of_ble_eq_true rfl) dL_law_495 ⟨by show uc + mc + 0 ≤ 66492; omega, by show us + ms + 0 ≤ 8902774; omega⟩ (fun w2 t2 H2 locs2 hQ2 hK2 hP2 hD2 hS2 => ?_)
  exact lv_icmp_eq (tgt := 582) hx hb dL_law_498 (by decide) (fun _ => nx _ _ _ _ _ _ _ (nxt _ _ _ _ hQ1 hQ2) b1 b2 hK2 (va_P_sw hP2) (va_D_sw hD2) hS2) (fun z => absurd rfl z)
set_option maxHeartbeats 4000000 in
set_option maxRecDepth 100000 in
theorem lc_told {p : Program} {l : Launch} {e : Env} {s : State} {m : MethodId} {below : List Frame} {meth : Method} {c : Code} {H : Heap} {locs : List Loc} {Q : State → Prop} {dC : Nat → ClassId} {dI : Nat → Nat → Nat} {b L : Nat} {xs : Nat → Int32} {base : Nat × Nat × Nat} {pa pb : Nat} {ls : Array Slot} {i T uc us : Nat} {wc wm : va_W} {tys : TY} (C0 : lwX p s m c b L xs base) (hI : INV T uc us wc wm tys pa pb) (hT : T < 1000) (hi : i + 7 ≤ L) (hK : va_K (dC, dI) vwCl tys s) (hP : va_P (dC, dI) vwCl (wc ++ wm) H) (hD : va_D (aS s) (wc ++ wm)) (hS : va_S (aS s) s.heap H locs) (hl : lv_has ls 4 [(0, .ref b), (1, .ref pa), (2, .ref pb), (3, .int (nI i))]) (nx : NX p l e s m b below meth c dC dI pa pb ls Q (T + 1)) : W p l e room_1 s m #[Value.ref b] below meth c H locs uc us Q (F0 m 503 ls []) := by
  obtain ⟨hx, hb, hml, hown, hts, hX, hbl, hE, hbs, hL⟩ := C0
  have hA : ∀ q : Nat, s.heap.size ≤ q → aS s q := fun _ h => h
  have hAB : ∀ q : Nat, aS s q → base.1 ≤ q := fun _ h => Nat.le_trans hbs h
  have hbA : ¬ aS s b := Nat.not_le.mpr hbl
  refine lv_aload_n hx hb dL_law_503 rfl (lv_at hl 1 rfl) ?_
  refine lv_aload_n hx hb dL_law_504 rfl (lv_at hl 0 rfl) ?_
  refine lv_iload_n hx hb dL_law_505 rfl (lv_at hl 3 rfl) ?_
  refine lv_iconst (v := nI 1) hx hb dL_law_506 (by decide) ?_
  refine lv_iadd hx hb dL_law_507 ?_
  refine va_sld hx hb hX hbl hbA hS (in_ij (by omega) hL) dL_law_508 ?_
  refine lv_aload_n hx hb dL_law_509 rfl (lv_at hl 0 rfl) ?_
  refine lv_iload_n hx hb dL_law_510 rfl (lv_at hl 3 rfl) ?_
  refine lv_iconst (v := nI 2) hx hb dL_law_511 (by decide) ?_
  refine lv_iadd hx hb dL_law_512 ?_
  refine va_sld hx hb hX hbl hbA hS (in_ij (by omega) hL) dL_law_513 ?_
  obtain ⟨v, rm, rm2, mc, ms, QC, QM, m1, m2, ⟨r1, r2, r3, r4⟩, ⟨r5, r6, r7, r8⟩, ⟨q0, fs, he⟩, ⟨q1, fs1, he1⟩, ⟨b1, b2⟩, nxt⟩ := cs_told (dC := dC) (dI := dI) hI hT (xs (nI i + nI 1).toNatClampNeg) (xs (nI i + nI 2).toNatClampNeg)
  refine kQi (As := [.int (xs (nI i + nI 1).toNatClampNeg), .int (xs (nI i + nI 2).toNatClampNeg)]) (rest := []) ⟨hx, hb, hml, hown, hts⟩ m1 (cwV 2 hts (gTV q919 q920 q921 q2 q922) rfl r1 r2 (by decide +kernel) ⟨by show rm.frames + 1 ≤ 2048; omega, by show 8 + (3 + 11) + rm.locals ≤ 84000; omega⟩) hK hP hD hS hA hE hAB (ci := 10) rfl he rfl rfl hl.1 rfl (Nat.le_of_ble_eq_true rfl) dL_law_514 ⟨by show uc + mc ≤ 66492; omega, by show us + ms ≤ 8902774; omega⟩ (fun w1 t1 H1 locs1 hQ1 hK1 hP1 hD1 hS1 => ?_)
  have hP1 := va_P_sw hP1
  have hD1 := va_D_sw hD1
  refine lv_aload_n hx hb dL_law_517 rfl (lv_at hl 2 rfl) ?_
  refine lv_aload_n hx hb dL_law_518 rfl (lv_at hl 0 rfl) ?_
  refine lv_iload_n hx hb dL_law_519 rfl (lv_at hl 3 rfl) ?_
  refine lv_iconst (v := nI 1) hx hb dL_law_520 (by decide) ?_
  refine lv_iadd hx hb dL_law_521 ?_
  refine va_sld hx hb hX hbl hbA hS1 (in_ij (by omega) hL) dL_law_522 ?_
  refine lv_aload_n hx hb dL_law_523 rfl (lv_at hl 0 rfl) ?_
  refine lv_iload_n hx hb dL_law_524 rfl (lv_at hl 3 rfl) ?_
  refine lv_iconst (v := nI 2) hx hb dL_law_525 (by decide) ?_
  refine lv_iadd hx hb dL_law_526 ?_
  refine va_sld hx hb hX hbl hbA hS1 (in_ij (by omega) hL) dL_law_527 ?_
  refine kQi (As := [.int (xs (nI i + nI 1).toNatClampNeg), .int (xs (nI i + nI 2).toNatClampNeg)]) (rest := [.int v]) ⟨hx, hb, hml, hown, hts⟩ (m2 t1) (cwV 2 hts (gTV q929 q930 q931 q5 q932) rfl r5 r6 (by decide +kernel) ⟨by show rm2.frames + 1 ≤ 2048; omega, by show 8 + (3 + 11) + rm2.locals ≤ 84000; omega⟩) hK1 hP1 hD1 hS1 hA hE hAB (ci := 11) rfl he1 rfl rfl hl.1 rfl (Nat.le_of_ble_eq_true rfl) dL_law_528 ⟨by show uc + mc + 0 ≤ 66492; omega, by show us + ms + 0 ≤ 8902774; omega⟩ (fun w2 t2 H2 locs2 hQ2 hK2 hP2 hD2 hS2 => ?_)
  exact lv_icmp_eq (tgt := 582) hx hb dL_law_531 (by decide) (fun _ => nx _ _ _ _ _ _ _ (nxt _ _ _ _ hQ1 hQ2) b1 b2 hK2 (va_P_sw hP2) (va_D_sw hD2) hS2) (fun z => absurd rfl z)
set_option maxHeartbeats 4000000 in
set_option maxRecDepth 100000 in
theorem lc_check {p : Program} {l : Launch} {e : Env} {s : State} {m : MethodId} {below : List Frame} {meth : Method} {c : Code} {H : Heap} {locs : List Loc} {Q : State → Prop} {dC : Nat → ClassId} {dI : Nat → Nat → Nat} {b L : Nat} {xs : Nat → Int32} {base : Nat × Nat × Nat} {pa pb : Nat} {ls : Array Slot} {i T uc us : Nat} {wc wm : va_W} {tys : TY} (C0 : lwX p s m c b L xs base) (hI : INV T uc us wc wm tys pa pb) (hT : T < 1000) (hi : i + 7 ≤ L) (hK : va_K (dC, dI) vwCl tys s) (hP : va_P (dC, dI) vwCl (wc ++ wm) H) (hD : va_D (aS s) (wc ++ wm)) (hS : va_S (aS s) s.heap H locs) (hl : lv_has ls 4 [(0, .ref b), (1, .ref pa), (2, .ref pb), (3, .int (nI i))]) (nx : NX p l e s m b below meth c dC dI pa pb ls Q (T + 1)) : W p l e room_1 s m #[Value.ref b] below meth c H locs uc us Q (F0 m 536 ls []) := by
  obtain ⟨hx, hb, hml, hown, hts, hX, hbl, hE, hbs, hL⟩ := C0
  have hA : ∀ q : Nat, s.heap.size ≤ q → aS s q := fun _ h => h
  have hAB : ∀ q : Nat, aS s q → base.1 ≤ q := fun _ h => Nat.le_trans hbs h
  have hbA : ¬ aS s b := Nat.not_le.mpr hbl
  refine lv_aload_n hx hb dL_law_536 rfl (lv_at hl 1 rfl) ?_
  obtain ⟨v, rm, rm2, mc, ms, QC, QM, m1, m2, ⟨r1, r2, r3, r4⟩, ⟨r5, r6, r7, r8⟩, ⟨q0, fs, he⟩, ⟨q1, fs1, he1⟩, ⟨b1, b2⟩, nxt⟩ := cs_check (dC := dC) (dI := dI) hI hT 
  refine kQi (As := []) (rest := []) ⟨hx, hb, hml, hown, hts⟩ m1 (cwV 0 hts (gTV q933 q934 q935 q2 q936) rfl r1 r2 (by decide +kernel) ⟨by show rm.frames + 1 ≤ 2048; omega, by show 8 + (1 + 11) + rm.locals ≤ 84000; omega⟩) hK hP hD hS hA hE hAB (ci := 10) rfl he rfl rfl hl.1 rfl (Nat.le_of_ble_eq_true rfl) dL_law_537 ⟨by show uc + mc ≤ 66492; omega, by show us + ms ≤ 8902774; omega⟩ (fun w1 t1 H1 locs1 hQ1 hK1 hP1 hD1 hS1 => ?_)
  have hP1 := va_P_sw hP1
  have hD1 := va_D_sw hD1
  refine lv_aload_n hx hb dL_law_540 rfl (lv_at hl 2 rfl) ?_
  refine kQi (As := []) (rest := [.int v]) ⟨hx, hb, hml, hown, hts⟩ (m2 t1) (cwV 0 hts (gTV q1103 q1104 q1105 q5 q1106) rfl r5 r6 (by decide +kernel) ⟨by show rm2.frames + 1 ≤ 2048; omega, by show 8 + (2 + 11) + rm2.locals ≤ 84000; omega⟩) hK1 hP1 hD1 hS1 hA hE hAB (ci := 11) rfl he1 rfl rfl hl.1 rfl (Nat.le_of_ble_eq_true rfl) dL_law_541 ⟨by show uc + mc + 0 ≤ 66492; omega, by show us + ms + 0 ≤ 8902774; omega⟩ (fun w2 t2 H2 locs2 hQ2 hK2 hP2 hD2 hS2 => ?_)
  exact lv_icmp_eq (tgt := 582) hx hb dL_law_544 (by decide) (fun _ => nx _ _ _ _ _ _ _ (nxt _ _ _ _ hQ1 hQ2) b1 b2 hK2 (va_P_sw hP2) (va_D_sw hD2) hS2) (fun z => absurd rfl z)
set_option maxHeartbeats 4000000 in
set_option maxRecDepth 100000 in
theorem lc_trace {p : Program} {l : Launch} {e : Env} {s : State} {m : MethodId} {below : List Frame} {meth : Method} {c : Code} {H : Heap} {locs : List Loc} {Q : State → Prop} {dC : Nat → ClassId} {dI : Nat → Nat → Nat} {b L : Nat} {xs : Nat → Int32} {base : Nat × Nat × Nat} {pa pb : Nat} {ls : Array Slot} {i T uc us : Nat} {wc wm : va_W} {tys : TY} (C0 : lwX p s m c b L xs base) (hI : INV T uc us wc wm tys pa pb) (hT : T < 1000) (hi : i + 7 ≤ L) (hK : va_K (dC, dI) vwCl tys s) (hP : va_P (dC, dI) vwCl (wc ++ wm) H) (hD : va_D (aS s) (wc ++ wm)) (hS : va_S (aS s) s.heap H locs) (hl : lv_has ls 4 [(0, .ref b), (1, .ref pa), (2, .ref pb), (3, .int (nI i))]) (nx : NX p l e s m b below meth c dC dI pa pb ls Q (T + 1)) : W p l e room_1 s m #[Value.ref b] below meth c H locs uc us Q (F0 m 549 ls []) := by
  obtain ⟨hx, hb, hml, hown, hts, hX, hbl, hE, hbs, hL⟩ := C0
  have hA : ∀ q : Nat, s.heap.size ≤ q → aS s q := fun _ h => h
  have hAB : ∀ q : Nat, aS s q → base.1 ≤ q := fun _ h => Nat.le_trans hbs h
  have hbA : ¬ aS s b := Nat.not_le.mpr hbl
  refine lv_aload_n hx hb dL_law_549 rfl (lv_at hl 1 rfl) ?_
  refine lv_aload_n hx hb dL_law_550 rfl (lv_at hl 0 rfl) ?_
  refine lv_iload_n hx hb dL_law_551 rfl (lv_at hl 3 rfl) ?_
  refine lv_iconst (v := nI 1) hx hb dL_law_552 (by decide) ?_
  refine lv_iadd hx hb dL_law_553 ?_
  refine va_sld hx hb hX hbl hbA hS (in_ij (by omega) hL) dL_law_554 ?_
  refine lv_aload_n hx hb dL_law_555 rfl (lv_at hl 0 rfl) ?_
  refine lv_iload_n hx hb dL_law_556 rfl (lv_at hl 3 rfl) ?_
  refine lv_iconst (v := nI 2) hx hb dL_law_557 (by decide) ?_
  refine lv_iadd hx hb dL_law_558 ?_
  refine va_sld hx hb hX hbl hbA hS (in_ij (by omega) hL) dL_law_559 ?_
  obtain ⟨v, rm, rm2, mc, ms, QC, QM, m1, m2, ⟨r1, r2, r3, r4⟩, ⟨r5, r6, r7, r8⟩, ⟨q0, fs, he⟩, ⟨q1, fs1, he1⟩, ⟨b1, b2⟩, nxt⟩ := cs_trace (dC := dC) (dI := dI) hI hT (xs (nI i + nI 1).toNatClampNeg) (xs (nI i + nI 2).toNatClampNeg)
  refine kQi (As := [.int (xs (nI i + nI 1).toNatClampNeg), .int (xs (nI i + nI 2).toNatClampNeg)]) (rest := []) ⟨hx, hb, hml, hown, hts⟩ m1 (cwV 2 hts (gTV q1159 q1160 q1161 q2 q1162) rfl r1 r2 (by decide +kernel) ⟨by show rm.frames + 1 ≤ 2048; omega, by show 8 + (3 + 11) + rm.locals ≤ 84000; omega⟩) hK hP hD hS hA hE hAB (ci := 10) rfl he rfl rfl hl.1 rfl (Nat.le_of_ble_eq_true rfl) dL_law_560 ⟨by show uc + mc ≤ 66492; omega, by show us + ms ≤ 8902774; omega⟩ (fun w1 t1 H1 locs1 hQ1 hK1 hP1 hD1 hS1 => ?_)
  have hP1 := va_P_sw hP1
  have hD1 := va_D_sw hD1
  refine lv_aload_n hx hb dL_law_563 rfl (lv_at hl 2 rfl) ?_
  refine lv_aload_n hx hb dL_law_564 rfl (lv_at hl 0 rfl) ?_
  refine lv_iload_n hx hb dL_law_565 rfl (lv_at hl 3 rfl) ?_
  refine lv_iconst (v := nI 1) hx hb dL_law_566 (by decide) ?_
  refine lv_iadd hx hb dL_law_567 ?_
  refine va_sld hx hb hX hbl hbA hS1 (in_ij (by omega) hL) dL_law_568 ?_
  refine lv_aload_n hx hb dL_law_569 rfl (lv_at hl 0 rfl) ?_
  refine lv_iload_n hx hb dL_law_570 rfl (lv_at hl 3 rfl) ?_
  refine lv_iconst (v := nI 2) hx hb dL_law_571 (by decide) ?_
  refine lv_iadd hx hb dL_law_572 ?_
  refine va_sld hx hb hX hbl hbA hS1 (in_ij (by omega) hL) dL_law_573 ?_
  refine kQi (As := [.int (xs (nI i + nI 1).toNatClampNeg), .int (xs (nI i + nI 2).toNatClampNeg)]) (rest := [.int v]) ⟨hx, hb, hml, hown, hts⟩ (m2 t1) (cwV 2 hts (gTV q1167 q1168 q1169 q5 q1170) rfl r5 r6 (by decide +kernel) ⟨by show rm2.frames + 1 ≤ 2048; omega, by show 8 + (3 + 11) + rm2.locals ≤ 84000; omega⟩) hK1 hP1 hD1 hS1 hA hE hAB (ci := 11) rfl he1 rfl rfl hl.1 rfl (Nat.le_of_ble_eq_true rfl) dL_law_574 ⟨by show uc + mc + 0 ≤ 66492; omega, by show us + ms + 0 ≤ 8902774; omega⟩ (fun w2 t2 H2 locs2 hQ2 hK2 hP2 hD2 hS2 => ?_)
  exact lv_icmp_eq (tgt := 582) hx hb dL_law_577 (by decide) (fun _ => nx _ _ _ _ _ _ _ (nxt _ _ _ _ hQ1 hQ2) b1 b2 hK2 (va_P_sw hP2) (va_D_sw hD2) hS2) (fun z => absurd rfl z)
