set_option maxHeartbeats 4000000 in
set_option maxRecDepth 100000 in
theorem mX11_isNameByte (l : Launch) (dC : Nat → ClassId) (dI : Nat → Nat → Nat) (sz : Nat) (base : Nat × Nat × Nat) (a0 : Int32) (o : Int32 × Unit) (hf : fX11_isNameByte a0 = some o) : Met l yX11_isNameByte (.code yX11_isNameByte cX11_isNameByte 1 (some .boolean) :: wsL_law) ({ frames := 1, cells := 0, slots := 0, locals := 22 }) (cPre (dC, dI) vwCl [.int a0] sz base [] []) (va_Qi (fun r u => r = o.1 ∧ u = o.2) (fun (u : Unit) t => cPost (dC, dI) vwCl (va_A [] sz) [] [] t) (va_A [] sz)) 0 0 (va_A [] sz) := by
  refine Met.ofW (cc := cX11_isNameByte) (maxL := 1) (ret := (some .boolean)) (by decide) rfl ?_
  intro p e s m args below meth c s₁ B hml hv
  obtain ⟨rfl, hsz, hP, hK, hD0, hE⟩ := hv
  have hx := B.exec
  have hb := B.bytes
  have hr := B.returns
  have hts : ∀ w ∈ wsL_law, _ := fun w h => atoms_spec (ws := .code yX11_isNameByte cX11_isNameByte 1 (some .boolean) :: wsL_law) B.pre w (List.mem_cons_of_mem _ h)
  have hown : s.vm.findClass RX11 = some m.cls := findClass_of_methodNamed B.named
  have hlocks := B.notSynchronized
  skip
  subst hsz
  have hD := hD0.self (sz := s.heap.size)
  generalize hAe : va_A [] s.heap.size = A at hD ⊢
  have hA : ∀ q : Nat, s.heap.size ≤ q → A q := fun q h => by rw [← hAe]; exact Or.inr h
  have hAB : ∀ q : Nat, A q → base.1 ≤ q := fun q h => by rw [← hAe] at h; exact h.elim (fun ⟨k, e, hk⟩ => hD0.2 k _ hk) (fun hk => Nat.le_trans hE.1 hk)
  have hS : va_S A s.heap s.heap [] := va_S.rf
  have hl := lv_entry ([.int a0]) (n := 1) (Nat.le_of_ble_eq_true rfl)
  rw [lg_entry_eq]
  generalize (lg_sl ([.int a0]) ++ List.replicate (1 - (lg_sl ([.int a0])).length) Slot.unset).toArray = ls at hl ⊢
  have hl : lv_has ls 1 [(0, .int a0)] := hl
  have hP : va_P (dC, dI) vwCl [] s.heap := hP
  refine gl_intro (fun G hG => ?_)
  have J27 : ∀ (z0 : Int32) (H : Heap) (locs : List Loc) (ls : Array Slot), va_P (dC, dI) vwCl [] H → va_D A [] → va_S A s.heap H locs → lv_has ls 1 [] → fX11_isNameByte_p27   z0 = some o → G 0 0 H locs (F0 m 27 ls [.int z0]) := by
    intro  z0 H locs ls hP hD hS hl hf
    refine (hG _ _ _ _ _).mpr ?_
    unfold fX11_isNameByte_p27 at hf
    have b1 := bd_b hf
    replace hf := bd_k hf
    have hf1 := Option.some.inj hf
    subst hf1
    have hP9 := hP.sub (ws' := []) [] rfl
    have hD9 := hD.sub (ws' := []) [] (by decide) rfl
    exact W.zret (v := z0) (ty := .boolean) hx hb hr (bz_nar b1) (fun t ht hW => ⟨⟨z0, (), rfl, ⟨rfl, rfl⟩, by rw [ht]; exact hP9, va_K.moved hW.alike hK, hD9⟩, hS.F ht⟩) hS.2.2 dX11_isNameByte_27
  have J22 : ∀ (H : Heap) (locs : List Loc) (ls : Array Slot), va_P (dC, dI) vwCl [] H → va_D A [] → va_S A s.heap H locs → lv_has ls 1 [] → fX11_isNameByte_p22    = some o → G 0 0 H locs (F0 m 22 ls []) := by
    intro   H locs ls hP hD hS hl hf
    refine (hG _ _ _ _ _).mpr ?_
    unfold fX11_isNameByte_p22 at hf
    refine lv_iconst (v := 1) hx hb dX11_isNameByte_22 (by decide +kernel) ?_
    refine lv_goto (tgt := 27) hx hb dX11_isNameByte_23 (by decide) ?_
    exact (hG _ _ _ _ _).mp (J27 1 H locs ls (hP.sub [] rfl) (hD.sub [] (by decide) rfl) hS (lv_sub hl [] rfl) hf)
  refine (hG _ _ _ _ _).mpr ?_
  obtain ⟨H, hH⟩ : ∃ H, H = s.heap := ⟨_, rfl⟩
  have hS : va_S A s.heap H [] := by rw [hH]; exact hS
  rw [← hH] at hP ⊢
  generalize ([] : List Loc) = locs at hS ⊢
  unfold fX11_isNameByte at hf
  refine lv_iload_n hx hb dX11_isNameByte_0 rfl (lv_at hl 0 rfl) ?_
  refine lv_bipush (v := 97) hx hb dX11_isNameByte_1 (by decide +kernel) ?_
  refine lv_bipush (v := 122) hx hb dX11_isNameByte_3 (by decide +kernel) ?_
  obtain ⟨o2, e2, hf⟩ := ob_some hf
  refine kSi (As := [.int a0, .int 97, .int 122]) (rest := []) ⟨hx, hb, hml, hown, hts⟩ (mX11_in l dC dI H.size base a0 97 122 o2 e2) (va_cwS 3 hts (gTS q148 q149 q5 q150) rfl rfl rfl (by decide +kernel) ⟨Nat.le_of_ble_eq_true rfl, Nat.le_of_ble_eq_true rfl⟩) hK hP hD hS hA hE hAB [] [] [] (wr := []) rfl rfl (by decide) (by decide) (by decide) rfl rfl hl.1 rfl (Nat.le_of_ble_eq_true rfl) dX11_isNameByte_5 ⟨Nat.zero_le _, Nat.zero_le _⟩ (fun r2 u2 H locs hw2 hP hD hS => ?_)
  obtain ⟨hw21, hw22⟩ := hw2
  subst hw21 hw22
  have hP : va_P (dC, dI) vwCl [] H := hP.sub [] rfl
  have hD : va_D A [] := hD.sub [] (by decide) rfl
  refine lv_if_ne (tgt := 22) hx hb dX11_isNameByte_8 (by decide) (fun cq3 => ?_) (fun cq3 => ?_)
  · replace hf := if_no hf cq3
    exact (hG _ _ _ _ _).mp (J22 H locs ls (hP.sub [] rfl) (hD.sub [] (by decide) rfl) hS (lv_sub hl [] rfl) hf)
  · replace hf := if_at hf cq3
    refine lv_iload_n hx hb dX11_isNameByte_11 rfl (lv_at hl 0 rfl) ?_
    refine lv_bipush (v := 48) hx hb dX11_isNameByte_12 (by decide +kernel) ?_
    refine lv_bipush (v := 57) hx hb dX11_isNameByte_14 (by decide +kernel) ?_
    obtain ⟨o4, e4, hf⟩ := ob_some hf
    refine kSi (As := [.int a0, .int 48, .int 57]) (rest := []) ⟨hx, hb, hml, hown, hts⟩ (mX11_in l dC dI H.size base a0 48 57 o4 e4) (va_cwS 3 hts (gTS q148 q149 q5 q150) rfl rfl rfl (by decide +kernel) ⟨Nat.le_of_ble_eq_true rfl, Nat.le_of_ble_eq_true rfl⟩) hK hP hD hS hA hE hAB [] [] [] (wr := []) rfl rfl (by decide) (by decide) (by decide) rfl rfl hl.1 rfl (Nat.le_of_ble_eq_true rfl) dX11_isNameByte_16 ⟨Nat.zero_le _, Nat.zero_le _⟩ (fun r4 u4 H locs hw4 hP hD hS => ?_)
    obtain ⟨hw41, hw42⟩ := hw4
    subst hw41 hw42
    have hP : va_P (dC, dI) vwCl [] H := hP.sub [] rfl
    have hD : va_D A [] := hD.sub [] (by decide) rfl
    refine lv_if_eq (tgt := 26) hx hb dX11_isNameByte_19 (by decide) (fun cq5 => ?_) (fun cq5 => ?_)
    · replace hf := if_at hf cq5
      refine lv_iconst (v := 0) hx hb dX11_isNameByte_26 (by decide +kernel) ?_
      exact (hG _ _ _ _ _).mp (J27 0 H locs ls (hP.sub [] rfl) (hD.sub [] (by decide) rfl) hS (lv_sub hl [] rfl) hf)
    · replace hf := if_no hf cq5
      exact (hG _ _ _ _ _).mp (J22 H locs ls (hP.sub [] rfl) (hD.sub [] (by decide) rfl) hS (lv_sub hl [] rfl) hf)
set_option maxHeartbeats 4000000 in
set_option maxRecDepth 100000 in
theorem mX11_isWord (l : Launch) (dC : Nat → ClassId) (dI : Nat → Nat → Nat) (sz : Nat) (base : Nat × Nat × Nat) (a0 : Int64) (o : Int32 × Unit) (hf : fX11_isWord a0 = some o) : Met l yX11_isWord (.code yX11_isWord cX11_isWord 2 (some .boolean) :: wsL_law) ({ frames := 0, cells := 0, slots := 0, locals := 0 }) (cPre (dC, dI) vwCl [.long a0] sz base [] []) (va_Qi (fun r u => r = o.1 ∧ u = o.2) (fun (u : Unit) t => cPost (dC, dI) vwCl (va_A [] sz) [] [] t) (va_A [] sz)) 0 0 (va_A [] sz) := by
  refine Met.ofW (cc := cX11_isWord) (maxL := 2) (ret := (some .boolean)) (by decide) rfl ?_
  intro p e s m args below meth c s₁ B hml hv
  obtain ⟨rfl, hsz, hP, hK, hD0, hE⟩ := hv
  have hx := B.exec
  have hb := B.bytes
  have hr := B.returns
  have hts : ∀ w ∈ wsL_law, _ := fun w h => atoms_spec (ws := .code yX11_isWord cX11_isWord 2 (some .boolean) :: wsL_law) B.pre w (List.mem_cons_of_mem _ h)
  have hown : s.vm.findClass RX11 = some m.cls := findClass_of_methodNamed B.named
  have hlocks := B.notSynchronized
  have w0_ := hts _ q814
  have w1_ := hts _ q815
  have w2_ := hts _ q816
  have w3_ := hts _ q817
  have w4_ := hts _ q818
  have w5_ := hts _ q819
  have w6_ := hts _ q820
  have w7_ := hts _ q821
  have w8_ := hts _ q822
  have w9_ := hts _ q823
  subst hsz
  have hD := hD0.self (sz := s.heap.size)
  generalize hAe : va_A [] s.heap.size = A at hD ⊢
  have hA : ∀ q : Nat, s.heap.size ≤ q → A q := fun q h => by rw [← hAe]; exact Or.inr h
  have hAB : ∀ q : Nat, A q → base.1 ≤ q := fun q h => by rw [← hAe] at h; exact h.elim (fun ⟨k, e, hk⟩ => hD0.2 k _ hk) (fun hk => Nat.le_trans hE.1 hk)
  have hS : va_S A s.heap s.heap [] := va_S.rf
  have hl := lv_entry ([.long a0]) (n := 2) (Nat.le_of_ble_eq_true rfl)
  rw [lg_entry_eq]
  generalize (lg_sl ([.long a0]) ++ List.replicate (2 - (lg_sl ([.long a0])).length) Slot.unset).toArray = ls at hl ⊢
  have hl : lv_has ls 2 [(0, .long a0)] := hl
  have hP : va_P (dC, dI) vwCl [] s.heap := hP
  refine gl_intro (fun G hG => ?_)
  have J85 : ∀ (z0 : Int32) (H : Heap) (locs : List Loc) (ls : Array Slot), va_P (dC, dI) vwCl [] H → va_D A [] → va_S A s.heap H locs → lv_has ls 2 [] → fX11_isWord_p85   z0 = some o → G 0 0 H locs (F0 m 85 ls [.int z0]) := by
    intro  z0 H locs ls hP hD hS hl hf
    refine (hG _ _ _ _ _).mpr ?_
    unfold fX11_isWord_p85 at hf
    have b1 := bd_b hf
    replace hf := bd_k hf
    have hf1 := Option.some.inj hf
    subst hf1
    have hP9 := hP.sub (ws' := []) [] rfl
    have hD9 := hD.sub (ws' := []) [] (by decide) rfl
    exact W.zret (v := z0) (ty := .boolean) hx hb hr (bz_nar b1) (fun t ht hW => ⟨⟨z0, (), rfl, ⟨rfl, rfl⟩, by rw [ht]; exact hP9, va_K.moved hW.alike hK, hD9⟩, hS.F ht⟩) hS.2.2 dX11_isWord_85
  have J80 : ∀ (H : Heap) (locs : List Loc) (ls : Array Slot), va_P (dC, dI) vwCl [] H → va_D A [] → va_S A s.heap H locs → lv_has ls 2 [] → fX11_isWord_p80    = some o → G 0 0 H locs (F0 m 80 ls []) := by
    intro   H locs ls hP hD hS hl hf
    refine (hG _ _ _ _ _).mpr ?_
    unfold fX11_isWord_p80 at hf
    refine lv_iconst (v := 1) hx hb dX11_isWord_80 (by decide +kernel) ?_
    refine lv_goto (tgt := 85) hx hb dX11_isWord_81 (by decide) ?_
    exact (hG _ _ _ _ _).mp (J85 1 H locs ls (hP.sub [] rfl) (hD.sub [] (by decide) rfl) hS (lv_sub hl [] rfl) hf)
  refine (hG _ _ _ _ _).mpr ?_
  obtain ⟨H, hH⟩ : ∃ H, H = s.heap := ⟨_, rfl⟩
  have hS : va_S A s.heap H [] := by rw [hH]; exact hS
  rw [← hH] at hP ⊢
  generalize ([] : List Loc) = locs at hS ⊢
  unfold fX11_isWord at hf
  refine lv_lload_n hx hb dX11_isWord_0 rfl (lv_at hl 0 rfl) ?_
  refine lv_ldc2 (v := 7758194) hx hb hown w0_ dX11_isWord_1 ?_
  refine W.lcmp hx hb dX11_isWord_4 ?_
  refine lv_topi (fun x2 e2 => ?_)
  replace hf := nm_at hf e2
  refine lv_if_eq (tgt := 80) hx hb dX11_isWord_5 (by decide) (fun cq3 => ?_) (fun cq3 => ?_)
  · replace hf := if_at hf cq3
    exact (hG _ _ _ _ _).mp (J80 H locs ls (hP.sub [] rfl) (hD.sub [] (by decide) rfl) hS (lv_sub hl [] rfl) hf)
  · replace hf := if_no hf cq3
    refine lv_lload_n hx hb dX11_isWord_8 rfl (lv_at hl 0 rfl) ?_
    refine lv_ldc2 (v := 1886547811) hx hb hown w1_ dX11_isWord_9 ?_
    refine W.lcmp hx hb dX11_isWord_12 ?_
    refine lv_topi (fun x4 e4 => ?_)
    replace hf := nm_at hf e4
    refine lv_if_eq (tgt := 80) hx hb dX11_isWord_13 (by decide) (fun cq5 => ?_) (fun cq5 => ?_)
    · replace hf := if_at hf cq5
      exact (hG _ _ _ _ _).mp (J80 H locs ls (hP.sub [] rfl) (hD.sub [] (by decide) rfl) hS (lv_sub hl [] rfl) hf)
    · replace hf := if_no hf cq5
      refine lv_lload_n hx hb dX11_isWord_16 rfl (lv_at hl 0 rfl) ?_
      refine lv_ldc2 (v := 26982) hx hb hown w2_ dX11_isWord_17 ?_
      refine W.lcmp hx hb dX11_isWord_20 ?_
      refine lv_topi (fun x6 e6 => ?_)
      replace hf := nm_at hf e6
      refine lv_if_eq (tgt := 80) hx hb dX11_isWord_21 (by decide) (fun cq7 => ?_) (fun cq7 => ?_)
      · replace hf := if_at hf cq7
        exact (hG _ _ _ _ _).mp (J80 H locs ls (hP.sub [] rfl) (hD.sub [] (by decide) rfl) hS (lv_sub hl [] rfl) hf)
      · replace hf := if_no hf cq7
        refine lv_lload_n hx hb dX11_isWord_24 rfl (lv_at hl 0 rfl) ?_
        refine lv_ldc2 (v := 1701606245) hx hb hown w3_ dX11_isWord_25 ?_
        refine W.lcmp hx hb dX11_isWord_28 ?_
        refine lv_topi (fun x8 e8 => ?_)
        replace hf := nm_at hf e8
        refine lv_if_eq (tgt := 80) hx hb dX11_isWord_29 (by decide) (fun cq9 => ?_) (fun cq9 => ?_)
        · replace hf := if_at hf cq9
          exact (hG _ _ _ _ _).mp (J80 H locs ls (hP.sub [] rfl) (hD.sub [] (by decide) rfl) hS (lv_sub hl [] rfl) hf)
        · replace hf := if_no hf cq9
          refine lv_lload_n hx hb dX11_isWord_32 rfl (lv_at hl 0 rfl) ?_
          refine lv_ldc2 (v := 512852847717) hx hb hown w4_ dX11_isWord_33 ?_
          refine W.lcmp hx hb dX11_isWord_36 ?_
          refine lv_topi (fun x10 e10 => ?_)
          replace hf := nm_at hf e10
          refine lv_if_eq (tgt := 80) hx hb dX11_isWord_37 (by decide) (fun cq11 => ?_) (fun cq11 => ?_)
          · replace hf := if_at hf cq11
            exact (hG _ _ _ _ _).mp (J80 H locs ls (hP.sub [] rfl) (hD.sub [] (by decide) rfl) hS (lv_sub hl [] rfl) hf)
          · replace hf := if_no hf cq11
            refine lv_lload_n hx hb dX11_isWord_40 rfl (lv_at hl 0 rfl) ?_
            refine lv_ldc2 (v := 1667329132) hx hb hown w5_ dX11_isWord_41 ?_
            refine W.lcmp hx hb dX11_isWord_44 ?_
            refine lv_topi (fun x12 e12 => ?_)
            replace hf := nm_at hf e12
            refine lv_if_eq (tgt := 80) hx hb dX11_isWord_45 (by decide) (fun cq13 => ?_) (fun cq13 => ?_)
            · replace hf := if_at hf cq13
              exact (hG _ _ _ _ _).mp (J80 H locs ls (hP.sub [] rfl) (hD.sub [] (by decide) rfl) hS (lv_sub hl [] rfl) hf)
            · replace hf := if_no hf cq13
              refine lv_lload_n hx hb dX11_isWord_48 rfl (lv_at hl 0 rfl) ?_
              refine lv_ldc2 (v := 107148485161588) hx hb hown w6_ dX11_isWord_49 ?_
              refine W.lcmp hx hb dX11_isWord_52 ?_
              refine lv_topi (fun x14 e14 => ?_)
              replace hf := nm_at hf e14
              refine lv_if_eq (tgt := 80) hx hb dX11_isWord_53 (by decide) (fun cq15 => ?_) (fun cq15 => ?_)
              · replace hf := if_at hf cq15
                exact (hG _ _ _ _ _).mp (J80 H locs ls (hP.sub [] rfl) (hD.sub [] (by decide) rfl) hS (lv_sub hl [] rfl) hf)
              · replace hf := if_no hf cq15
                refine lv_lload_n hx hb dX11_isWord_56 rfl (lv_at hl 0 rfl) ?_
                refine lv_ldc2 (v := 107148486208869) hx hb hown w7_ dX11_isWord_57 ?_
                refine W.lcmp hx hb dX11_isWord_60 ?_
                refine lv_topi (fun x16 e16 => ?_)
                replace hf := nm_at hf e16
                refine lv_if_eq (tgt := 80) hx hb dX11_isWord_61 (by decide) (fun cq17 => ?_) (fun cq17 => ?_)
                · replace hf := if_at hf cq17
                  exact (hG _ _ _ _ _).mp (J80 H locs ls (hP.sub [] rfl) (hD.sub [] (by decide) rfl) hS (lv_sub hl [] rfl) hf)
                · replace hf := if_no hf cq17
                  refine lv_lload_n hx hb dX11_isWord_64 rfl (lv_at hl 0 rfl) ?_
                  refine lv_ldc2 (v := 125780071117422) hx hb hown w8_ dX11_isWord_65 ?_
                  refine W.lcmp hx hb dX11_isWord_68 ?_
                  refine lv_topi (fun x18 e18 => ?_)
                  replace hf := nm_at hf e18
                  refine lv_if_eq (tgt := 80) hx hb dX11_isWord_69 (by decide) (fun cq19 => ?_) (fun cq19 => ?_)
                  · replace hf := if_at hf cq19
                    exact (hG _ _ _ _ _).mp (J80 H locs ls (hP.sub [] rfl) (hD.sub [] (by decide) rfl) hS (lv_sub hl [] rfl) hf)
                  · replace hf := if_no hf cq19
                    refine lv_lload_n hx hb dX11_isWord_72 rfl (lv_at hl 0 rfl) ?_
                    refine lv_ldc2 (v := 1936419184) hx hb hown w9_ dX11_isWord_73 ?_
                    refine W.lcmp hx hb dX11_isWord_76 ?_
                    refine lv_topi (fun x20 e20 => ?_)
                    replace hf := nm_at hf e20
                    refine lv_if_ne (tgt := 84) hx hb dX11_isWord_77 (by decide) (fun cq21 => ?_) (fun cq21 => ?_)
                    · replace hf := if_no hf cq21
                      refine lv_iconst (v := 0) hx hb dX11_isWord_84 (by decide +kernel) ?_
                      exact (hG _ _ _ _ _).mp (J85 0 H locs ls (hP.sub [] rfl) (hD.sub [] (by decide) rfl) hS (lv_sub hl [] rfl) hf)
                    · replace hf := if_at hf cq21
                      exact (hG _ _ _ _ _).mp (J80 H locs ls (hP.sub [] rfl) (hD.sub [] (by decide) rfl) hS (lv_sub hl [] rfl) hf)
set_option maxHeartbeats 4000000 in
set_option maxRecDepth 100000 in
theorem mX11_isSign (l : Launch) (dC : Nat → ClassId) (dI : Nat → Nat → Nat) (sz : Nat) (base : Nat × Nat × Nat) (a0 : Int32) (o : Int32 × Unit) (hf : fX11_isSign a0 = some o) : Met l yX11_isSign (.code yX11_isSign cX11_isSign 1 (some .boolean) :: wsL_law) ({ frames := 0, cells := 0, slots := 0, locals := 0 }) (cPre (dC, dI) vwCl [.int a0] sz base [] []) (va_Qi (fun r u => r = o.1 ∧ u = o.2) (fun (u : Unit) t => cPost (dC, dI) vwCl (va_A [] sz) [] [] t) (va_A [] sz)) 0 0 (va_A [] sz) := by
  refine Met.ofW (cc := cX11_isSign) (maxL := 1) (ret := (some .boolean)) (by decide) rfl ?_
  intro p e s m args below meth c s₁ B hml hv
  obtain ⟨rfl, hsz, hP, hK, hD0, hE⟩ := hv
  have hx := B.exec
  have hb := B.bytes
  have hr := B.returns
  have hts : ∀ w ∈ wsL_law, _ := fun w h => atoms_spec (ws := .code yX11_isSign cX11_isSign 1 (some .boolean) :: wsL_law) B.pre w (List.mem_cons_of_mem _ h)
  have hown : s.vm.findClass RX11 = some m.cls := findClass_of_methodNamed B.named
  have hlocks := B.notSynchronized
  skip
  subst hsz
  have hD := hD0.self (sz := s.heap.size)
  generalize hAe : va_A [] s.heap.size = A at hD ⊢
  have hA : ∀ q : Nat, s.heap.size ≤ q → A q := fun q h => by rw [← hAe]; exact Or.inr h
  have hAB : ∀ q : Nat, A q → base.1 ≤ q := fun q h => by rw [← hAe] at h; exact h.elim (fun ⟨k, e, hk⟩ => hD0.2 k _ hk) (fun hk => Nat.le_trans hE.1 hk)
  have hS : va_S A s.heap s.heap [] := va_S.rf
  have hl := lv_entry ([.int a0]) (n := 1) (Nat.le_of_ble_eq_true rfl)
  rw [lg_entry_eq]
  generalize (lg_sl ([.int a0]) ++ List.replicate (1 - (lg_sl ([.int a0])).length) Slot.unset).toArray = ls at hl ⊢
  have hl : lv_has ls 1 [(0, .int a0)] := hl
  have hP : va_P (dC, dI) vwCl [] s.heap := hP
  refine gl_intro (fun G hG => ?_)
  have J83 : ∀ (z0 : Int32) (H : Heap) (locs : List Loc) (ls : Array Slot), va_P (dC, dI) vwCl [] H → va_D A [] → va_S A s.heap H locs → lv_has ls 1 [] → fX11_isSign_p83   z0 = some o → G 0 0 H locs (F0 m 83 ls [.int z0]) := by
    intro  z0 H locs ls hP hD hS hl hf
    refine (hG _ _ _ _ _).mpr ?_
    unfold fX11_isSign_p83 at hf
    have b1 := bd_b hf
    replace hf := bd_k hf
    have hf1 := Option.some.inj hf
    subst hf1
    have hP9 := hP.sub (ws' := []) [] rfl
    have hD9 := hD.sub (ws' := []) [] (by decide) rfl
    exact W.zret (v := z0) (ty := .boolean) hx hb hr (bz_nar b1) (fun t ht hW => ⟨⟨z0, (), rfl, ⟨rfl, rfl⟩, by rw [ht]; exact hP9, va_K.moved hW.alike hK, hD9⟩, hS.F ht⟩) hS.2.2 dX11_isSign_83
  have J78 : ∀ (H : Heap) (locs : List Loc) (ls : Array Slot), va_P (dC, dI) vwCl [] H → va_D A [] → va_S A s.heap H locs → lv_has ls 1 [] → fX11_isSign_p78    = some o → G 0 0 H locs (F0 m 78 ls []) := by
    intro   H locs ls hP hD hS hl hf
    refine (hG _ _ _ _ _).mpr ?_
    unfold fX11_isSign_p78 at hf
    refine lv_iconst (v := 1) hx hb dX11_isSign_78 (by decide +kernel) ?_
    refine lv_goto (tgt := 83) hx hb dX11_isSign_79 (by decide) ?_
    exact (hG _ _ _ _ _).mp (J83 1 H locs ls (hP.sub [] rfl) (hD.sub [] (by decide) rfl) hS (lv_sub hl [] rfl) hf)
  refine (hG _ _ _ _ _).mpr ?_
  obtain ⟨H, hH⟩ : ∃ H, H = s.heap := ⟨_, rfl⟩
  have hS : va_S A s.heap H [] := by rw [hH]; exact hS
  rw [← hH] at hP ⊢
  generalize ([] : List Loc) = locs at hS ⊢
  unfold fX11_isSign at hf
  refine lv_iload_n hx hb dX11_isSign_0 rfl (lv_at hl 0 rfl) ?_
  refine lv_bipush (v := 48) hx hb dX11_isSign_1 (by decide +kernel) ?_
  refine lv_icmp_eq (tgt := 78) hx hb dX11_isSign_3 (by decide) (fun cq2 => ?_) (fun cq2 => ?_)
  · replace hf := if_at hf cq2
    exact (hG _ _ _ _ _).mp (J78 H locs ls (hP.sub [] rfl) (hD.sub [] (by decide) rfl) hS (lv_sub hl [] rfl) hf)
  · replace hf := if_no hf cq2
    refine lv_iload_n hx hb dX11_isSign_6 rfl (lv_at hl 0 rfl) ?_
    refine lv_bipush (v := 49) hx hb dX11_isSign_7 (by decide +kernel) ?_
    refine lv_icmp_eq (tgt := 78) hx hb dX11_isSign_9 (by decide) (fun cq3 => ?_) (fun cq3 => ?_)
    · replace hf := if_at hf cq3
      exact (hG _ _ _ _ _).mp (J78 H locs ls (hP.sub [] rfl) (hD.sub [] (by decide) rfl) hS (lv_sub hl [] rfl) hf)
    · replace hf := if_no hf cq3
      refine lv_iload_n hx hb dX11_isSign_12 rfl (lv_at hl 0 rfl) ?_
      refine lv_bipush (v := 42) hx hb dX11_isSign_13 (by decide +kernel) ?_
      refine lv_icmp_eq (tgt := 78) hx hb dX11_isSign_15 (by decide) (fun cq4 => ?_) (fun cq4 => ?_)
      · replace hf := if_at hf cq4
        exact (hG _ _ _ _ _).mp (J78 H locs ls (hP.sub [] rfl) (hD.sub [] (by decide) rfl) hS (lv_sub hl [] rfl) hf)
      · replace hf := if_no hf cq4
        refine lv_iload_n hx hb dX11_isSign_18 rfl (lv_at hl 0 rfl) ?_
        refine lv_bipush (v := 61) hx hb dX11_isSign_19 (by decide +kernel) ?_
        refine lv_icmp_eq (tgt := 78) hx hb dX11_isSign_21 (by decide) (fun cq5 => ?_) (fun cq5 => ?_)
        · replace hf := if_at hf cq5
          exact (hG _ _ _ _ _).mp (J78 H locs ls (hP.sub [] rfl) (hD.sub [] (by decide) rfl) hS (lv_sub hl [] rfl) hf)
        · replace hf := if_no hf cq5
          refine lv_iload_n hx hb dX11_isSign_24 rfl (lv_at hl 0 rfl) ?_
          refine lv_bipush (v := 59) hx hb dX11_isSign_25 (by decide +kernel) ?_
          refine lv_icmp_eq (tgt := 78) hx hb dX11_isSign_27 (by decide) (fun cq6 => ?_) (fun cq6 => ?_)
          · replace hf := if_at hf cq6
            exact (hG _ _ _ _ _).mp (J78 H locs ls (hP.sub [] rfl) (hD.sub [] (by decide) rfl) hS (lv_sub hl [] rfl) hf)
          · replace hf := if_no hf cq6
            refine lv_iload_n hx hb dX11_isSign_30 rfl (lv_at hl 0 rfl) ?_
            refine lv_bipush (v := 44) hx hb dX11_isSign_31 (by decide +kernel) ?_
            refine lv_icmp_eq (tgt := 78) hx hb dX11_isSign_33 (by decide) (fun cq7 => ?_) (fun cq7 => ?_)
            · replace hf := if_at hf cq7
              exact (hG _ _ _ _ _).mp (J78 H locs ls (hP.sub [] rfl) (hD.sub [] (by decide) rfl) hS (lv_sub hl [] rfl) hf)
            · replace hf := if_no hf cq7
              refine lv_iload_n hx hb dX11_isSign_36 rfl (lv_at hl 0 rfl) ?_
              refine lv_bipush (v := 123) hx hb dX11_isSign_37 (by decide +kernel) ?_
              refine lv_icmp_eq (tgt := 78) hx hb dX11_isSign_39 (by decide) (fun cq8 => ?_) (fun cq8 => ?_)
              · replace hf := if_at hf cq8
                exact (hG _ _ _ _ _).mp (J78 H locs ls (hP.sub [] rfl) (hD.sub [] (by decide) rfl) hS (lv_sub hl [] rfl) hf)
              · replace hf := if_no hf cq8
                refine lv_iload_n hx hb dX11_isSign_42 rfl (lv_at hl 0 rfl) ?_
                refine lv_bipush (v := 125) hx hb dX11_isSign_43 (by decide +kernel) ?_
                refine lv_icmp_eq (tgt := 78) hx hb dX11_isSign_45 (by decide) (fun cq9 => ?_) (fun cq9 => ?_)
                · replace hf := if_at hf cq9
                  exact (hG _ _ _ _ _).mp (J78 H locs ls (hP.sub [] rfl) (hD.sub [] (by decide) rfl) hS (lv_sub hl [] rfl) hf)
                · replace hf := if_no hf cq9
                  refine lv_iload_n hx hb dX11_isSign_48 rfl (lv_at hl 0 rfl) ?_
                  refine lv_bipush (v := 40) hx hb dX11_isSign_49 (by decide +kernel) ?_
                  refine lv_icmp_eq (tgt := 78) hx hb dX11_isSign_51 (by decide) (fun cq10 => ?_) (fun cq10 => ?_)
                  · replace hf := if_at hf cq10
                    exact (hG _ _ _ _ _).mp (J78 H locs ls (hP.sub [] rfl) (hD.sub [] (by decide) rfl) hS (lv_sub hl [] rfl) hf)
                  · replace hf := if_no hf cq10
                    refine lv_iload_n hx hb dX11_isSign_54 rfl (lv_at hl 0 rfl) ?_
                    refine lv_bipush (v := 41) hx hb dX11_isSign_55 (by decide +kernel) ?_
                    refine lv_icmp_eq (tgt := 78) hx hb dX11_isSign_57 (by decide) (fun cq11 => ?_) (fun cq11 => ?_)
                    · replace hf := if_at hf cq11
                      exact (hG _ _ _ _ _).mp (J78 H locs ls (hP.sub [] rfl) (hD.sub [] (by decide) rfl) hS (lv_sub hl [] rfl) hf)
                    · replace hf := if_no hf cq11
                      refine lv_iload_n hx hb dX11_isSign_60 rfl (lv_at hl 0 rfl) ?_
                      refine lv_bipush (v := 33) hx hb dX11_isSign_61 (by decide +kernel) ?_
                      refine lv_icmp_eq (tgt := 78) hx hb dX11_isSign_63 (by decide) (fun cq12 => ?_) (fun cq12 => ?_)
                      · replace hf := if_at hf cq12
                        exact (hG _ _ _ _ _).mp (J78 H locs ls (hP.sub [] rfl) (hD.sub [] (by decide) rfl) hS (lv_sub hl [] rfl) hf)
                      · replace hf := if_no hf cq12
                        refine lv_iload_n hx hb dX11_isSign_66 rfl (lv_at hl 0 rfl) ?_
                        refine lv_bipush (v := 38) hx hb dX11_isSign_67 (by decide +kernel) ?_
                        refine lv_icmp_eq (tgt := 78) hx hb dX11_isSign_69 (by decide) (fun cq13 => ?_) (fun cq13 => ?_)
                        · replace hf := if_at hf cq13
                          exact (hG _ _ _ _ _).mp (J78 H locs ls (hP.sub [] rfl) (hD.sub [] (by decide) rfl) hS (lv_sub hl [] rfl) hf)
                        · replace hf := if_no hf cq13
                          refine lv_iload_n hx hb dX11_isSign_72 rfl (lv_at hl 0 rfl) ?_
                          refine lv_bipush (v := 124) hx hb dX11_isSign_73 (by decide +kernel) ?_
                          refine lv_icmp_ne (tgt := 82) hx hb dX11_isSign_75 (by decide) (fun cq14 => ?_) (fun cq14 => ?_)
                          · replace hf := if_no hf cq14
                            refine lv_iconst (v := 0) hx hb dX11_isSign_82 (by decide +kernel) ?_
                            exact (hG _ _ _ _ _).mp (J83 0 H locs ls (hP.sub [] rfl) (hD.sub [] (by decide) rfl) hS (lv_sub hl [] rfl) hf)
                          · replace hf := if_at hf cq14
                            exact (hG _ _ _ _ _).mp (J78 H locs ls (hP.sub [] rfl) (hD.sub [] (by decide) rfl) hS (lv_sub hl [] rfl) hf)
abbrev wX11_next (h0 h1 : Nat) (kc1 : ClassId) (V0 : Nat → Value) (v0_textSize : Int32) (v0_from : Int32) (v0_to : Int32) (v0_token : Int32) (v0_name : Int64) (c1 : Nat → Int32) : va_W := [(h0, .inr (11, [V0 0, V0 1, V0 2, V0 3, V0 4, V0 5, V0 6, V0 7, V0 8, V0 9, V0 10, V0 11, V0 12, V0 13, V0 14, V0 15, V0 16, V0 17, V0 18, .int v0_textSize, .ref h1, .int v0_from, .int v0_to, .int v0_token, .long v0_name, V0 25, V0 26, V0 27, V0 28, V0 29, V0 30, V0 31, V0 32, V0 33, V0 34, V0 35, V0 36, V0 37, V0 38, V0 39, V0 40, V0 41, V0 42, V0 43, V0 44, V0 45, V0 46, V0 47, V0 48, V0 49, V0 50, V0 51, V0 52, V0 53, V0 54, V0 55, V0 56, V0 57, V0 58, V0 59, V0 60, V0 61, V0 62, V0 63, V0 64, V0 65, V0 66, V0 67, V0 68, V0 69, V0 70])), (h1, .inl (kc1, 600, .inl c1))]
set_option maxHeartbeats 4000000 in
set_option maxRecDepth 100000 in
theorem mX11_next (l : Launch) (dC : Nat → ClassId) (dI : Nat → Nat → Nat) (h0 h1 : Nat) (kc1 : ClassId) (sz : Nat) (base : Nat × Nat × Nat) (v0_textSize : Int32) (v0_from : Int32) (v0_to : Int32) (v0_token : Int32) (v0_name : Int64) (c1 : Nat → Int32) (V0 : Nat → Value) (o : Int32 × Int32 × Int32 × Int64) (hf : fX11_next v0_textSize v0_from v0_to v0_token v0_name c1 = some o) : Met l yX11_next (.code yX11_next cX11_next 2 none :: wsL_law) ({ frames := 2, cells := 0, slots := 0, locals := 42 }) (cPre (dC, dI) vwCl [.ref h0] sz base (wX11_next h0 h1 kc1 V0 v0_textSize v0_from v0_to v0_token v0_name c1) [(kc1, .int)]) (va_Qv (fun u => u = o) (fun (u : Int32 × Int32 × Int32 × Int64) t => cPost (dC, dI) vwCl (va_A (wX11_next h0 h1 kc1 V0 v0_textSize v0_from v0_to v0_token v0_name c1) sz) (wX11_next h0 h1 kc1 V0 v0_textSize u.1 u.2.1 u.2.2.1 u.2.2.2 c1) [(kc1, .int)] t) (va_A (wX11_next h0 h1 kc1 V0 v0_textSize v0_from v0_to v0_token v0_name c1) sz)) 0 0 (va_A (wX11_next h0 h1 kc1 V0 v0_textSize v0_from v0_to v0_token v0_name c1) sz) := by
  refine Met.ofW (cc := cX11_next) (maxL := 2) (ret := none) (by decide) rfl ?_
  intro p e s m args below meth c s₁ B hml hv
  obtain ⟨rfl, hsz, hP, hK, hD0, hE⟩ := hv
  have hx := B.exec
  have hb := B.bytes
  have hr := B.returns
  have hts : ∀ w ∈ wsL_law, _ := fun w h => atoms_spec (ws := .code yX11_next cX11_next 2 none :: wsL_law) B.pre w (List.mem_cons_of_mem _ h)
  have hown : s.vm.findClass RX11 = some m.cls := findClass_of_methodNamed B.named
  have hlocks := B.notSynchronized
  have w0_ := hts _ q801
  have w1_ := hts _ q802
  have w2_ := hts _ q794
  have w3_ := hts _ q803
  subst hsz
  have hD := hD0.self (sz := s.heap.size)
  generalize hAe : va_A (wX11_next h0 h1 kc1 V0 v0_textSize v0_from v0_to v0_token v0_name c1) s.heap.size = A at hD ⊢
  have hA : ∀ q : Nat, s.heap.size ≤ q → A q := fun q h => by rw [← hAe]; exact Or.inr h
  have hAB : ∀ q : Nat, A q → base.1 ≤ q := fun q h => by rw [← hAe] at h; exact h.elim (fun ⟨k, e, hk⟩ => hD0.2 k _ hk) (fun hk => Nat.le_trans hE.1 hk)
  have hS : va_S A s.heap s.heap [] := va_S.rf
  have hl := lv_entry ([.ref h0]) (n := 2) (Nat.le_of_ble_eq_true rfl)
  rw [lg_entry_eq]
  generalize (lg_sl ([.ref h0]) ++ List.replicate (2 - (lg_sl ([.ref h0])).length) Slot.unset).toArray = ls at hl ⊢
  have hl : lv_has ls 2 [(0, .ref h0)] := hl
  have hP : va_P (dC, dI) vwCl (wX11_next h0 h1 kc1 V0 v0_textSize v0_from v0_to v0_token v0_name c1) s.heap := hP
  refine gl_intro (fun G hG => ?_)
  have J34 : ∀ (k8 : Int32 → Int32 → Int32 → Int64 → Option (Int32 × Int32 × Int32 × Int64)) (hk8 : ∀ (v0_from : Int32) (v0_to : Int32) (v0_token : Int32) (v0_name : Int64) (H : Heap) (locs : List Loc) (ls : Array Slot), va_P (dC, dI) vwCl (wX11_next h0 h1 kc1 V0 v0_textSize v0_from v0_to v0_token v0_name c1) H → va_D A (wX11_next h0 h1 kc1 V0 v0_textSize v0_from v0_to v0_token v0_name c1) → va_S A s.heap H locs → lv_has ls 2 [(0, .ref h0)] → k8 v0_from v0_to v0_token v0_name = some o → G 0 0 H locs (F0 m 8 ls [])), ∀ (v0_from : Int32) (v0_to : Int32) (v0_token : Int32) (v0_name : Int64) (H : Heap) (locs : List Loc) (ls : Array Slot), va_P (dC, dI) vwCl (wX11_next h0 h1 kc1 V0 v0_textSize v0_from v0_to v0_token v0_name c1) H → va_D A (wX11_next h0 h1 kc1 V0 v0_textSize v0_from v0_to v0_token v0_name c1) → va_S A s.heap H locs → lv_has ls 2 [(0, .ref h0)] → fX11_next_p34 v0_textSize c1 k8 v0_from v0_to v0_token v0_name = some o → G 0 0 H locs (F0 m 34 ls []) := by
    intro k8 hk8 v0_from v0_to v0_token v0_name H locs ls hP hD hS hl hf
    refine (hG _ _ _ _ _).mpr ?_
    unfold fX11_next_p34 at hf
    refine lv_aload_n hx hb dX11_next_34 rfl (lv_at hl 0 rfl) ?_
    refine lv_dup hx hb dX11_next_35 rfl ?_
    refine va_get (D := (dC, dI)) (ci := 11) (v := .int v0_from) (C := RX11) (T := TX11) (N := 71) hx hb hts inlX11 hown hK hP 0 rfl rfl 21 (by decide) w0_ (fun _ h9 => h9) rfl dX11_next_36 ?_
    refine lv_iconst (v := 1) hx hb dX11_next_39 (by decide +kernel) ?_
    refine lv_iadd hx hb dX11_next_40 ?_
    refine lv_topi (fun x1 e1 => ?_)
    replace hf := nm_at hf e1
    refine va_put (D := (dC, dI)) (ci := 11) (v := .int x1) (ty := .int) (C := RX11) (T := TX11) (N := 71) hx hb hts inlX11 tyX11 tyX11_ok nmX11 hown hK hP hD hS 0 rfl rfl 21 (by decide) w0_ (fun _ h9 => h9) rfl (by decide +kernel) rfl rfl (Nat.le_of_ble_eq_true rfl) dX11_next_41 (fun H locs hP hD hS => ?_)
    have hP : va_P (dC, dI) vwCl (wX11_next h0 h1 kc1 V0 v0_textSize x1 v0_to v0_token v0_name c1) H := hP
    have hD : va_D A (wX11_next h0 h1 kc1 V0 v0_textSize x1 v0_to v0_token v0_name c1) := hD
    refine lv_goto (tgt := 8) hx hb dX11_next_44 (by decide) ?_
    exact (hG _ _ _ _ _).mp (hk8 x1 v0_to v0_token v0_name H locs ls (hP.sub [0, 1] rfl) (hD.sub [0, 1] (by decide) rfl) hS (lv_sub hl [0] rfl) hf)
  have J227 : ∀ (v0_from : Int32) (v0_to : Int32) (v0_token : Int32) (v0_name : Int64) (H : Heap) (locs : List Loc) (ls : Array Slot), va_P (dC, dI) vwCl (wX11_next h0 h1 kc1 V0 v0_textSize v0_from v0_to v0_token v0_name c1) H → va_D A (wX11_next h0 h1 kc1 V0 v0_textSize v0_from v0_to v0_token v0_name c1) → va_S A s.heap H locs → lv_has ls 2 [(0, .ref h0)] → fX11_next_p227 v0_textSize c1  v0_from v0_to v0_token v0_name = some o → G 0 0 H locs (F0 m 227 ls []) := by
    intro  v0_from v0_to v0_token v0_name H locs ls hP hD hS hl hf
    refine (hG _ _ _ _ _).mpr ?_
    unfold fX11_next_p227 at hf
    have hf1 := Option.some.inj hf
    subst hf1
    have hP9 := hP.sub (ws' := (wX11_next h0 h1 kc1 V0 v0_textSize v0_from v0_to v0_token v0_name c1)) [0, 1] rfl
    have hD9 := hD.sub (ws' := (wX11_next h0 h1 kc1 V0 v0_textSize v0_from v0_to v0_token v0_name c1)) [0, 1] (by decide) rfl
    exact W.vret hx hb hr (fun t ht hW => ⟨⟨(v0_from, v0_to, v0_token, v0_name), rfl, rfl, by rw [ht]; exact hP9, va_K.moved hW.alike hK, hD9⟩, hS.F ht⟩) hS.2.2 dX11_next_227
  have J214 : ∀ (z0 : Int32) (v0_from : Int32) (v0_to : Int32) (v0_token : Int32) (v0_name : Int64) (H : Heap) (locs : List Loc) (ls : Array Slot), va_P (dC, dI) vwCl (wX11_next h0 h1 kc1 V0 v0_textSize v0_from v0_to v0_token v0_name c1) H → va_D A (wX11_next h0 h1 kc1 V0 v0_textSize v0_from v0_to v0_token v0_name c1) → va_S A s.heap H locs → lv_has ls 2 [(0, .ref h0)] → fX11_next_p214 v0_textSize c1  z0 v0_from v0_to v0_token v0_name = some o → G 0 0 H locs (F0 m 214 ls [.int z0, .ref h0]) := by
    intro  z0 v0_from v0_to v0_token v0_name H locs ls hP hD hS hl hf
    refine (hG _ _ _ _ _).mpr ?_
    unfold fX11_next_p214 at hf
    refine va_put (D := (dC, dI)) (ci := 11) (v := .int z0) (ty := .int) (C := RX11) (T := TX11) (N := 71) hx hb hts inlX11 tyX11 tyX11_ok nmX11 hown hK hP hD hS 0 rfl rfl 23 (by decide) w1_ (fun _ h9 => h9) rfl (by decide +kernel) rfl rfl (Nat.le_of_ble_eq_true rfl) dX11_next_214 (fun H locs hP hD hS => ?_)
    have hP : va_P (dC, dI) vwCl (wX11_next h0 h1 kc1 V0 v0_textSize v0_from v0_to z0 v0_name c1) H := hP
    have hD : va_D A (wX11_next h0 h1 kc1 V0 v0_textSize v0_from v0_to z0 v0_name c1) := hD
    refine lv_aload_n hx hb dX11_next_217 rfl (lv_at hl 0 rfl) ?_
    refine lv_dup hx hb dX11_next_218 rfl ?_
    refine va_get (D := (dC, dI)) (ci := 11) (v := .int v0_to) (C := RX11) (T := TX11) (N := 71) hx hb hts inlX11 hown hK hP 0 rfl rfl 22 (by decide) w2_ (fun _ h9 => h9) rfl dX11_next_219 ?_
    refine lv_iconst (v := 1) hx hb dX11_next_222 (by decide +kernel) ?_
    refine lv_iadd hx hb dX11_next_223 ?_
    refine lv_topi (fun x2 e2 => ?_)
    replace hf := nm_at hf e2
    refine va_put (D := (dC, dI)) (ci := 11) (v := .int x2) (ty := .int) (C := RX11) (T := TX11) (N := 71) hx hb hts inlX11 tyX11 tyX11_ok nmX11 hown hK hP hD hS 0 rfl rfl 22 (by decide) w2_ (fun _ h9 => h9) rfl (by decide +kernel) rfl rfl (Nat.le_of_ble_eq_true rfl) dX11_next_224 (fun H locs hP hD hS => ?_)
    have hP : va_P (dC, dI) vwCl (wX11_next h0 h1 kc1 V0 v0_textSize v0_from x2 z0 v0_name c1) H := hP
    have hD : va_D A (wX11_next h0 h1 kc1 V0 v0_textSize v0_from x2 z0 v0_name c1) := hD
    exact (hG _ _ _ _ _).mp (J227 v0_from x2 z0 v0_name H locs ls (hP.sub [0, 1] rfl) (hD.sub [0, 1] (by decide) rfl) hS (lv_sub hl [0] rfl) hf)
  have J195 : ∀ (z0 : Int32) (v0_from : Int32) (v0_to : Int32) (v0_token : Int32) (v0_name : Int64) (H : Heap) (locs : List Loc) (ls : Array Slot), va_P (dC, dI) vwCl (wX11_next h0 h1 kc1 V0 v0_textSize v0_from v0_to v0_token v0_name c1) H → va_D A (wX11_next h0 h1 kc1 V0 v0_textSize v0_from v0_to v0_token v0_name c1) → va_S A s.heap H locs → lv_has ls 2 [(0, .ref h0)] → fX11_next_p195 v0_textSize c1  z0 v0_from v0_to v0_token v0_name = some o → G 0 0 H locs (F0 m 195 ls [.int z0, .ref h0]) := by
    intro  z0 v0_from v0_to v0_token v0_name H locs ls hP hD hS hl hf
    refine (hG _ _ _ _ _).mpr ?_
    unfold fX11_next_p195 at hf
    refine va_put (D := (dC, dI)) (ci := 11) (v := .int z0) (ty := .int) (C := RX11) (T := TX11) (N := 71) hx hb hts inlX11 tyX11 tyX11_ok nmX11 hown hK hP hD hS 0 rfl rfl 23 (by decide) w1_ (fun _ h9 => h9) rfl (by decide +kernel) rfl rfl (Nat.le_of_ble_eq_true rfl) dX11_next_195 (fun H locs hP hD hS => ?_)
    have hP : va_P (dC, dI) vwCl (wX11_next h0 h1 kc1 V0 v0_textSize v0_from v0_to z0 v0_name c1) H := hP
    have hD : va_D A (wX11_next h0 h1 kc1 V0 v0_textSize v0_from v0_to z0 v0_name c1) := hD
    refine lv_goto (tgt := 227) hx hb dX11_next_198 (by decide) ?_
    exact (hG _ _ _ _ _).mp (J227 v0_from v0_to z0 v0_name H locs ls (hP.sub [0, 1] rfl) (hD.sub [0, 1] (by decide) rfl) hS (lv_sub hl [0] rfl) hf)
  have J145 : ∀ (k92 : Int32 → Int32 → Int32 → Int64 → Option (Int32 × Int32 × Int32 × Int64)) (hk92 : ∀ (v0_from : Int32) (v0_to : Int32) (v0_token : Int32) (v0_name : Int64) (H : Heap) (locs : List Loc) (ls : Array Slot), va_P (dC, dI) vwCl (wX11_next h0 h1 kc1 V0 v0_textSize v0_from v0_to v0_token v0_name c1) H → va_D A (wX11_next h0 h1 kc1 V0 v0_textSize v0_from v0_to v0_token v0_name c1) → va_S A s.heap H locs → lv_has ls 2 [(0, .ref h0)] → k92 v0_from v0_to v0_token v0_name = some o → G 0 0 H locs (F0 m 92 ls [])), ∀ (z0 : Int64) (v0_from : Int32) (v0_to : Int32) (v0_token : Int32) (v0_name : Int64) (H : Heap) (locs : List Loc) (ls : Array Slot), va_P (dC, dI) vwCl (wX11_next h0 h1 kc1 V0 v0_textSize v0_from v0_to v0_token v0_name c1) H → va_D A (wX11_next h0 h1 kc1 V0 v0_textSize v0_from v0_to v0_token v0_name c1) → va_S A s.heap H locs → lv_has ls 2 [(0, .ref h0)] → fX11_next_p145 v0_textSize c1 k92 z0 v0_from v0_to v0_token v0_name = some o → G 0 0 H locs (F0 m 145 ls [.long z0, .ref h0]) := by
    intro k92 hk92 z0 v0_from v0_to v0_token v0_name H locs ls hP hD hS hl hf
    refine (hG _ _ _ _ _).mpr ?_
    unfold fX11_next_p145 at hf
    refine va_put (D := (dC, dI)) (ci := 11) (v := .long z0) (ty := .long) (C := RX11) (T := TX11) (N := 71) hx hb hts inlX11 tyX11 tyX11_ok nmX11 hown hK hP hD hS 0 rfl rfl 24 (by decide) w3_ (fun _ h9 => h9) rfl (by decide +kernel) rfl rfl (Nat.le_of_ble_eq_true rfl) dX11_next_145 (fun H locs hP hD hS => ?_)
    have hP : va_P (dC, dI) vwCl (wX11_next h0 h1 kc1 V0 v0_textSize v0_from v0_to v0_token z0 c1) H := hP
    have hD : va_D A (wX11_next h0 h1 kc1 V0 v0_textSize v0_from v0_to v0_token z0 c1) := hD
    refine lv_aload_n hx hb dX11_next_148 rfl (lv_at hl 0 rfl) ?_
    refine lv_dup hx hb dX11_next_149 rfl ?_
    refine va_get (D := (dC, dI)) (ci := 11) (v := .int v0_to) (C := RX11) (T := TX11) (N := 71) hx hb hts inlX11 hown hK hP 0 rfl rfl 22 (by decide) w2_ (fun _ h9 => h9) rfl dX11_next_150 ?_
    refine lv_iconst (v := 1) hx hb dX11_next_153 (by decide +kernel) ?_
    refine lv_iadd hx hb dX11_next_154 ?_
    refine lv_topi (fun x3 e3 => ?_)
    replace hf := nm_at hf e3
    refine va_put (D := (dC, dI)) (ci := 11) (v := .int x3) (ty := .int) (C := RX11) (T := TX11) (N := 71) hx hb hts inlX11 tyX11 tyX11_ok nmX11 hown hK hP hD hS 0 rfl rfl 22 (by decide) w2_ (fun _ h9 => h9) rfl (by decide +kernel) rfl rfl (Nat.le_of_ble_eq_true rfl) dX11_next_155 (fun H locs hP hD hS => ?_)
    have hP : va_P (dC, dI) vwCl (wX11_next h0 h1 kc1 V0 v0_textSize v0_from x3 v0_token z0 c1) H := hP
    have hD : va_D A (wX11_next h0 h1 kc1 V0 v0_textSize v0_from x3 v0_token z0 c1) := hD
    refine lv_goto (tgt := 92) hx hb dX11_next_158 (by decide) ?_
    exact (hG _ _ _ _ _).mp (hk92 v0_from x3 v0_token z0 H locs ls (hP.sub [0, 1] rfl) (hD.sub [0, 1] (by decide) rfl) hS (lv_sub hl [0] rfl) hf)
  have B92 : ∀ (k92 : Int32 → Int32 → Int32 → Int64 → Option (Int32 × Int32 × Int32 × Int64)) (hk92 : ∀ (v0_from : Int32) (v0_to : Int32) (v0_token : Int32) (v0_name : Int64) (H : Heap) (locs : List Loc) (ls : Array Slot), va_P (dC, dI) vwCl (wX11_next h0 h1 kc1 V0 v0_textSize v0_from v0_to v0_token v0_name c1) H → va_D A (wX11_next h0 h1 kc1 V0 v0_textSize v0_from v0_to v0_token v0_name c1) → va_S A s.heap H locs → lv_has ls 2 [(0, .ref h0)] → k92 v0_from v0_to v0_token v0_name = some o → G 0 0 H locs (F0 m 92 ls [])), ∀ (v0_from : Int32) (v0_to : Int32) (v0_token : Int32) (v0_name : Int64) (H : Heap) (locs : List Loc) (ls : Array Slot), va_P (dC, dI) vwCl (wX11_next h0 h1 kc1 V0 v0_textSize v0_from v0_to v0_token v0_name c1) H → va_D A (wX11_next h0 h1 kc1 V0 v0_textSize v0_from v0_to v0_token v0_name c1) → va_S A s.heap H locs → lv_has ls 2 [(0, .ref h0)] → fX11_next_b92 v0_textSize c1  k92 v0_from v0_to v0_token v0_name = some o → G 0 0 H locs (F0 m 92 ls []) := by
    intro  k92 hk92 v0_from v0_to v0_token v0_name H locs ls hP hD hS hl hf
    refine (hG _ _ _ _ _).mpr ?_
    unfold fX11_next_b92 at hf
    refine lv_aload_n hx hb dX11_next_92 rfl (lv_at hl 0 rfl) ?_
    refine lv_aload_n hx hb dX11_next_93 rfl (lv_at hl 0 rfl) ?_
    refine va_get (D := (dC, dI)) (ci := 11) (v := .int v0_to) (C := RX11) (T := TX11) (N := 71) hx hb hts inlX11 hown hK hP 0 rfl rfl 22 (by decide) w2_ (fun _ h9 => h9) rfl dX11_next_94 ?_
    obtain ⟨o4, e4, hf⟩ := ob_some hf
    refine kVi (As := [.int v0_to]) (rest := []) ⟨hx, hb, hml, hown, hts⟩ (mX11_byteAt l dC dI h0 h1 kc1 H.size base v0_to v0_textSize c1 (fun k => match k with | 21 => .int v0_from | 22 => .int v0_to | 23 => .int v0_token | 24 => .long v0_name | k => V0 k) o4 e4) (cwV 1 hts (gTV q804 q805 q806 q5 q807) rfl rfl rfl (by decide +kernel) ⟨Nat.le_of_ble_eq_true rfl, Nat.le_of_ble_eq_true rfl⟩) hK hP hD hS hA hE hAB [0, 1] [] [0] (wr := []) rfl rfl (by decide) (by decide) (by decide) rfl (ci := 11) (q0 := 0) rfl rfl rfl rfl hl.1 rfl (Nat.le_of_ble_eq_true rfl) dX11_next_97 ⟨Nat.zero_le _, Nat.zero_le _⟩ (fun r4 u4 H locs hw4 hP hD hS => ?_)
    obtain ⟨hw41, hw42⟩ := hw4
    subst hw41 hw42
    have hP : va_P (dC, dI) vwCl (wX11_next h0 h1 kc1 V0 v0_textSize v0_from v0_to v0_token v0_name c1) H := hP.sub [0, 1] rfl
    have hD : va_D A (wX11_next h0 h1 kc1 V0 v0_textSize v0_from v0_to v0_token v0_name c1) := hD.sub [0, 1] (by decide) rfl
    obtain ⟨o5, e5, hf⟩ := ob_some hf
    refine kSi (As := [.int o4.1]) (rest := []) ⟨hx, hb, hml, hown, hts⟩ (mX11_isNameByte l dC dI H.size base o4.1 o5 e5) (va_cwS 1 hts (gTS q808 q809 q5 q810) rfl rfl rfl (by decide +kernel) ⟨Nat.le_of_ble_eq_true rfl, Nat.le_of_ble_eq_true rfl⟩) hK hP hD hS hA hE hAB [] [0, 1] [] (wr := (wX11_next h0 h1 kc1 V0 v0_textSize v0_from v0_to v0_token v0_name c1)) rfl rfl (by decide) (by decide) (by decide) rfl rfl hl.1 rfl (Nat.le_of_ble_eq_true rfl) dX11_next_100 ⟨Nat.zero_le _, Nat.zero_le _⟩ (fun r5 u5 H locs hw5 hP hD hS => ?_)
    obtain ⟨hw51, hw52⟩ := hw5
    subst hw51 hw52
    have hP : va_P (dC, dI) vwCl (wX11_next h0 h1 kc1 V0 v0_textSize v0_from v0_to v0_token v0_name c1) H := hP.sub [0, 1] rfl
    have hD : va_D A (wX11_next h0 h1 kc1 V0 v0_textSize v0_from v0_to v0_token v0_name c1) := hD.sub [0, 1] (by decide) rfl
    refine lv_if_eq (tgt := 161) hx hb dX11_next_103 (by decide) (fun cq6 => ?_) (fun cq6 => ?_)
    · replace hf := if_at hf cq6
      refine lv_aload_n hx hb dX11_next_161 rfl (lv_at hl 0 rfl) ?_
      refine lv_aload_n hx hb dX11_next_162 rfl (lv_at hl 0 rfl) ?_
      refine va_get (D := (dC, dI)) (ci := 11) (v := .int v0_to) (C := RX11) (T := TX11) (N := 71) hx hb hts inlX11 hown hK hP 0 rfl rfl 22 (by decide) w2_ (fun _ h9 => h9) rfl dX11_next_163 ?_
      refine lv_aload_n hx hb dX11_next_166 rfl (lv_at hl 0 rfl) ?_
      refine va_get (D := (dC, dI)) (ci := 11) (v := .int v0_from) (C := RX11) (T := TX11) (N := 71) hx hb hts inlX11 hown hK hP 0 rfl rfl 21 (by decide) w0_ (fun _ h9 => h9) rfl dX11_next_167 ?_
      refine lv_isub hx hb dX11_next_170 ?_
      refine lv_topi (fun x7 e7 => ?_)
      replace hf := nm_at hf e7
      refine lv_bipush (v := 8) hx hb dX11_next_171 (by decide +kernel) ?_
      refine lv_icmp_le (tgt := 180) hx hb dX11_next_173 (by decide) (fun cq8 => ?_) (fun cq8 => ?_)
      · replace hf := if_at hf cq8
        refine lv_aload_n hx hb dX11_next_180 rfl (lv_at hl 0 rfl) ?_
        refine va_get (D := (dC, dI)) (ci := 11) (v := .long v0_name) (C := RX11) (T := TX11) (N := 71) hx hb hts inlX11 hown hK hP 0 rfl rfl 24 (by decide) w3_ (fun _ h9 => h9) rfl dX11_next_181 ?_
        obtain ⟨o9, e9, hf⟩ := ob_some hf
        refine kSi (As := [.long v0_name]) (rest := [.ref h0]) ⟨hx, hb, hml, hown, hts⟩ (mX11_isWord l dC dI H.size base v0_name o9 e9) (va_cwS 1 hts (gTS q811 q812 q5 q813) rfl rfl rfl (by decide +kernel) ⟨Nat.le_of_ble_eq_true rfl, Nat.le_of_ble_eq_true rfl⟩) hK hP hD hS hA hE hAB [] [0, 1] [] (wr := (wX11_next h0 h1 kc1 V0 v0_textSize v0_from v0_to v0_token v0_name c1)) rfl rfl (by decide) (by decide) (by decide) rfl rfl hl.1 rfl (Nat.le_of_ble_eq_true rfl) dX11_next_184 ⟨Nat.zero_le _, Nat.zero_le _⟩ (fun r9 u9 H locs hw9 hP hD hS => ?_)
        obtain ⟨hw91, hw92⟩ := hw9
        subst hw91 hw92
        have hP : va_P (dC, dI) vwCl (wX11_next h0 h1 kc1 V0 v0_textSize v0_from v0_to v0_token v0_name c1) H := hP.sub [0, 1] rfl
        have hD : va_D A (wX11_next h0 h1 kc1 V0 v0_textSize v0_from v0_to v0_token v0_name c1) := hD.sub [0, 1] (by decide) rfl
        refine lv_if_eq (tgt := 194) hx hb dX11_next_187 (by decide) (fun cq10 => ?_) (fun cq10 => ?_)
        · replace hf := if_at hf cq10
          refine lv_iconst (v := 1) hx hb dX11_next_194 (by decide +kernel) ?_
          exact (hG _ _ _ _ _).mp (J195 1 v0_from v0_to v0_token v0_name H locs ls (hP.sub [0, 1] rfl) (hD.sub [0, 1] (by decide) rfl) hS (lv_sub hl [0] rfl) hf)
        · replace hf := if_no hf cq10
          refine lv_iconst (v := 2) hx hb dX11_next_190 (by decide +kernel) ?_
          refine lv_goto (tgt := 195) hx hb dX11_next_191 (by decide) ?_
          exact (hG _ _ _ _ _).mp (J195 2 v0_from v0_to v0_token v0_name H locs ls (hP.sub [0, 1] rfl) (hD.sub [0, 1] (by decide) rfl) hS (lv_sub hl [0] rfl) hf)
      · replace hf := if_no hf cq8
        refine lv_iconst (v := 4) hx hb dX11_next_176 (by decide +kernel) ?_
        refine lv_goto (tgt := 195) hx hb dX11_next_177 (by decide) ?_
        exact (hG _ _ _ _ _).mp (J195 4 v0_from v0_to v0_token v0_name H locs ls (hP.sub [0, 1] rfl) (hD.sub [0, 1] (by decide) rfl) hS (lv_sub hl [0] rfl) hf)
    · replace hf := if_no hf cq6
      refine lv_aload_n hx hb dX11_next_106 rfl (lv_at hl 0 rfl) ?_
      refine lv_aload_n hx hb dX11_next_107 rfl (lv_at hl 0 rfl) ?_
      refine va_get (D := (dC, dI)) (ci := 11) (v := .int v0_to) (C := RX11) (T := TX11) (N := 71) hx hb hts inlX11 hown hK hP 0 rfl rfl 22 (by decide) w2_ (fun _ h9 => h9) rfl dX11_next_108 ?_
      refine lv_aload_n hx hb dX11_next_111 rfl (lv_at hl 0 rfl) ?_
      refine va_get (D := (dC, dI)) (ci := 11) (v := .int v0_from) (C := RX11) (T := TX11) (N := 71) hx hb hts inlX11 hown hK hP 0 rfl rfl 21 (by decide) w0_ (fun _ h9 => h9) rfl dX11_next_112 ?_
      refine lv_isub hx hb dX11_next_115 ?_
      refine lv_topi (fun x11 e11 => ?_)
      replace hf := nm_at hf e11
      refine lv_bipush (v := 8) hx hb dX11_next_116 (by decide +kernel) ?_
      refine lv_icmp_ge (tgt := 141) hx hb dX11_next_118 (by decide) (fun cq12 => ?_) (fun cq12 => ?_)
      · replace hf := if_at hf cq12
        refine lv_aload_n hx hb dX11_next_141 rfl (lv_at hl 0 rfl) ?_
        refine va_get (D := (dC, dI)) (ci := 11) (v := .long v0_name) (C := RX11) (T := TX11) (N := 71) hx hb hts inlX11 hown hK hP 0 rfl rfl 24 (by decide) w3_ (fun _ h9 => h9) rfl dX11_next_142 ?_
        exact (hG _ _ _ _ _).mp (J145 k92 hk92 v0_name v0_from v0_to v0_token v0_name H locs ls (hP.sub [0, 1] rfl) (hD.sub [0, 1] (by decide) rfl) hS (lv_sub hl [0] rfl) hf)
      · replace hf := if_no hf cq12
        refine lv_aload_n hx hb dX11_next_121 rfl (lv_at hl 0 rfl) ?_
        refine va_get (D := (dC, dI)) (ci := 11) (v := .long v0_name) (C := RX11) (T := TX11) (N := 71) hx hb hts inlX11 hown hK hP 0 rfl rfl 24 (by decide) w3_ (fun _ h9 => h9) rfl dX11_next_122 ?_
        refine lv_bipush (v := 8) hx hb dX11_next_125 (by decide +kernel) ?_
        refine lv_lshl hx hb dX11_next_127 rfl ?_
        refine lv_topl (fun x13 e13 => ?_)
        replace hf := nm_at hf e13
        refine lv_aload_n hx hb dX11_next_128 rfl (lv_at hl 0 rfl) ?_
        refine lv_aload_n hx hb dX11_next_129 rfl (lv_at hl 0 rfl) ?_
        refine va_get (D := (dC, dI)) (ci := 11) (v := .int v0_to) (C := RX11) (T := TX11) (N := 71) hx hb hts inlX11 hown hK hP 0 rfl rfl 22 (by decide) w2_ (fun _ h9 => h9) rfl dX11_next_130 ?_
        obtain ⟨o14, e14, hf⟩ := ob_some hf
        refine kVi (As := [.int v0_to]) (rest := [.long x13, .ref h0]) ⟨hx, hb, hml, hown, hts⟩ (mX11_byteAt l dC dI h0 h1 kc1 H.size base v0_to v0_textSize c1 (fun k => match k with | 21 => .int v0_from | 22 => .int v0_to | 23 => .int v0_token | 24 => .long v0_name | k => V0 k) o14 e14) (cwV 1 hts (gTV q804 q805 q806 q5 q807) rfl rfl rfl (by decide +kernel) ⟨Nat.le_of_ble_eq_true rfl, Nat.le_of_ble_eq_true rfl⟩) hK hP hD hS hA hE hAB [0, 1] [] [0] (wr := []) rfl rfl (by decide) (by decide) (by decide) rfl (ci := 11) (q0 := 0) rfl rfl rfl rfl hl.1 rfl (Nat.le_of_ble_eq_true rfl) dX11_next_133 ⟨Nat.zero_le _, Nat.zero_le _⟩ (fun r14 u14 H locs hw14 hP hD hS => ?_)
        obtain ⟨hw141, hw142⟩ := hw14
        subst hw141 hw142
        have hP : va_P (dC, dI) vwCl (wX11_next h0 h1 kc1 V0 v0_textSize v0_from v0_to v0_token v0_name c1) H := hP.sub [0, 1] rfl
        have hD : va_D A (wX11_next h0 h1 kc1 V0 v0_textSize v0_from v0_to v0_token v0_name c1) := hD.sub [0, 1] (by decide) rfl
        refine lv_i2l hx hb dX11_next_136 rfl ?_
        refine lv_topl (fun x15 e15 => ?_)
        replace hf := nm_at hf e15
        refine lv_lor hx hb dX11_next_137 ?_
        refine lv_topl (fun x16 e16 => ?_)
        replace hf := nm_at hf e16
        refine lv_goto (tgt := 145) hx hb dX11_next_138 (by decide) ?_
        exact (hG _ _ _ _ _).mp (J145 k92 hk92 x16 v0_from v0_to v0_token v0_name H locs ls (hP.sub [0, 1] rfl) (hD.sub [0, 1] (by decide) rfl) hS (lv_sub hl [0] rfl) hf)
  have L92 : ∀ (n : Nat), ∀ (v0_from : Int32) (v0_to : Int32) (v0_token : Int32) (v0_name : Int64) (H : Heap) (locs : List Loc) (ls : Array Slot), va_P (dC, dI) vwCl (wX11_next h0 h1 kc1 V0 v0_textSize v0_from v0_to v0_token v0_name c1) H → va_D A (wX11_next h0 h1 kc1 V0 v0_textSize v0_from v0_to v0_token v0_name c1) → va_S A s.heap H locs → lv_has ls 2 [(0, .ref h0)] → fX11_next_l92 v0_textSize c1  n v0_from v0_to v0_token v0_name = some o → G 0 0 H locs (F0 m 92 ls []) := by
    intro  n
    induction n with
    | zero => intro v0_from v0_to v0_token v0_name H locs ls _ _ _ _ hf; cases hf
    | succ n ih => exact B92  _ ih
  have B8 : ∀ (k8 : Int32 → Int32 → Int32 → Int64 → Option (Int32 × Int32 × Int32 × Int64)) (hk8 : ∀ (v0_from : Int32) (v0_to : Int32) (v0_token : Int32) (v0_name : Int64) (H : Heap) (locs : List Loc) (ls : Array Slot), va_P (dC, dI) vwCl (wX11_next h0 h1 kc1 V0 v0_textSize v0_from v0_to v0_token v0_name c1) H → va_D A (wX11_next h0 h1 kc1 V0 v0_textSize v0_from v0_to v0_token v0_name c1) → va_S A s.heap H locs → lv_has ls 2 [(0, .ref h0)] → k8 v0_from v0_to v0_token v0_name = some o → G 0 0 H locs (F0 m 8 ls [])), ∀ (v0_from : Int32) (v0_to : Int32) (v0_token : Int32) (v0_name : Int64) (H : Heap) (locs : List Loc) (ls : Array Slot), va_P (dC, dI) vwCl (wX11_next h0 h1 kc1 V0 v0_textSize v0_from v0_to v0_token v0_name c1) H → va_D A (wX11_next h0 h1 kc1 V0 v0_textSize v0_from v0_to v0_token v0_name c1) → va_S A s.heap H locs → lv_has ls 2 [(0, .ref h0)] → fX11_next_b8 v0_textSize c1  k8 v0_from v0_to v0_token v0_name = some o → G 0 0 H locs (F0 m 8 ls []) := by
    intro  k8 hk8 v0_from v0_to v0_token v0_name H locs ls hP hD hS hl hf
    refine (hG _ _ _ _ _).mpr ?_
    unfold fX11_next_b8 at hf
    refine lv_aload_n hx hb dX11_next_8 rfl (lv_at hl 0 rfl) ?_
    refine lv_aload_n hx hb dX11_next_9 rfl (lv_at hl 0 rfl) ?_
    refine va_get (D := (dC, dI)) (ci := 11) (v := .int v0_from) (C := RX11) (T := TX11) (N := 71) hx hb hts inlX11 hown hK hP 0 rfl rfl 21 (by decide) w0_ (fun _ h9 => h9) rfl dX11_next_10 ?_
    obtain ⟨o17, e17, hf⟩ := ob_some hf
    refine kVi (As := [.int v0_from]) (rest := []) ⟨hx, hb, hml, hown, hts⟩ (mX11_byteAt l dC dI h0 h1 kc1 H.size base v0_from v0_textSize c1 (fun k => match k with | 21 => .int v0_from | 22 => .int v0_to | 23 => .int v0_token | 24 => .long v0_name | k => V0 k) o17 e17) (cwV 1 hts (gTV q804 q805 q806 q5 q807) rfl rfl rfl (by decide +kernel) ⟨Nat.le_of_ble_eq_true rfl, Nat.le_of_ble_eq_true rfl⟩) hK hP hD hS hA hE hAB [0, 1] [] [0] (wr := []) rfl rfl (by decide) (by decide) (by decide) rfl (ci := 11) (q0 := 0) rfl rfl rfl rfl hl.1 rfl (Nat.le_of_ble_eq_true rfl) dX11_next_13 ⟨Nat.zero_le _, Nat.zero_le _⟩ (fun r17 u17 H locs hw17 hP hD hS => ?_)
    obtain ⟨hw171, hw172⟩ := hw17
    subst hw171 hw172
    have hP : va_P (dC, dI) vwCl (wX11_next h0 h1 kc1 V0 v0_textSize v0_from v0_to v0_token v0_name c1) H := hP.sub [0, 1] rfl
    have hD : va_D A (wX11_next h0 h1 kc1 V0 v0_textSize v0_from v0_to v0_token v0_name c1) := hD.sub [0, 1] (by decide) rfl
    refine lv_bipush (v := 32) hx hb dX11_next_16 (by decide +kernel) ?_
    refine lv_icmp_eq (tgt := 34) hx hb dX11_next_18 (by decide) (fun cq18 => ?_) (fun cq18 => ?_)
    · replace hf := if_at hf cq18
      exact (hG _ _ _ _ _).mp (J34 k8 hk8 v0_from v0_to v0_token v0_name H locs ls (hP.sub [0, 1] rfl) (hD.sub [0, 1] (by decide) rfl) hS (lv_sub hl [0] rfl) hf)
    · replace hf := if_no hf cq18
      refine lv_aload_n hx hb dX11_next_21 rfl (lv_at hl 0 rfl) ?_
      refine lv_aload_n hx hb dX11_next_22 rfl (lv_at hl 0 rfl) ?_
      refine va_get (D := (dC, dI)) (ci := 11) (v := .int v0_from) (C := RX11) (T := TX11) (N := 71) hx hb hts inlX11 hown hK hP 0 rfl rfl 21 (by decide) w0_ (fun _ h9 => h9) rfl dX11_next_23 ?_
      obtain ⟨o19, e19, hf⟩ := ob_some hf
      refine kVi (As := [.int v0_from]) (rest := []) ⟨hx, hb, hml, hown, hts⟩ (mX11_byteAt l dC dI h0 h1 kc1 H.size base v0_from v0_textSize c1 (fun k => match k with | 21 => .int v0_from | 22 => .int v0_to | 23 => .int v0_token | 24 => .long v0_name | k => V0 k) o19 e19) (cwV 1 hts (gTV q804 q805 q806 q5 q807) rfl rfl rfl (by decide +kernel) ⟨Nat.le_of_ble_eq_true rfl, Nat.le_of_ble_eq_true rfl⟩) hK hP hD hS hA hE hAB [0, 1] [] [0] (wr := []) rfl rfl (by decide) (by decide) (by decide) rfl (ci := 11) (q0 := 0) rfl rfl rfl rfl hl.1 rfl (Nat.le_of_ble_eq_true rfl) dX11_next_26 ⟨Nat.zero_le _, Nat.zero_le _⟩ (fun r19 u19 H locs hw19 hP hD hS => ?_)
      obtain ⟨hw191, hw192⟩ := hw19
      subst hw191 hw192
      have hP : va_P (dC, dI) vwCl (wX11_next h0 h1 kc1 V0 v0_textSize v0_from v0_to v0_token v0_name c1) H := hP.sub [0, 1] rfl
      have hD : va_D A (wX11_next h0 h1 kc1 V0 v0_textSize v0_from v0_to v0_token v0_name c1) := hD.sub [0, 1] (by decide) rfl
      refine lv_bipush (v := 10) hx hb dX11_next_29 (by decide +kernel) ?_
      refine lv_icmp_ne (tgt := 47) hx hb dX11_next_31 (by decide) (fun cq20 => ?_) (fun cq20 => ?_)
      · replace hf := if_no hf cq20
        refine lv_aload_n hx hb dX11_next_47 rfl (lv_at hl 0 rfl) ?_
        refine lv_aload_n hx hb dX11_next_48 rfl (lv_at hl 0 rfl) ?_
        refine va_get (D := (dC, dI)) (ci := 11) (v := .int v0_from) (C := RX11) (T := TX11) (N := 71) hx hb hts inlX11 hown hK hP 0 rfl rfl 21 (by decide) w0_ (fun _ h9 => h9) rfl dX11_next_49 ?_
        refine va_put (D := (dC, dI)) (ci := 11) (v := .int v0_from) (ty := .int) (C := RX11) (T := TX11) (N := 71) hx hb hts inlX11 tyX11 tyX11_ok nmX11 hown hK hP hD hS 0 rfl rfl 22 (by decide) w2_ (fun _ h9 => h9) rfl (by decide +kernel) rfl rfl (Nat.le_of_ble_eq_true rfl) dX11_next_52 (fun H locs hP hD hS => ?_)
        have hP : va_P (dC, dI) vwCl (wX11_next h0 h1 kc1 V0 v0_textSize v0_from v0_from v0_token v0_name c1) H := hP
        have hD : va_D A (wX11_next h0 h1 kc1 V0 v0_textSize v0_from v0_from v0_token v0_name c1) := hD
        refine lv_aload_n hx hb dX11_next_55 rfl (lv_at hl 0 rfl) ?_
        refine lv_aload_n hx hb dX11_next_56 rfl (lv_at hl 0 rfl) ?_
        refine va_get (D := (dC, dI)) (ci := 11) (v := .int v0_from) (C := RX11) (T := TX11) (N := 71) hx hb hts inlX11 hown hK hP 0 rfl rfl 21 (by decide) w0_ (fun _ h9 => h9) rfl dX11_next_57 ?_
        obtain ⟨o21, e21, hf⟩ := ob_some hf
        refine kVi (As := [.int v0_from]) (rest := []) ⟨hx, hb, hml, hown, hts⟩ (mX11_byteAt l dC dI h0 h1 kc1 H.size base v0_from v0_textSize c1 (fun k => match k with | 21 => .int v0_from | 22 => .int v0_from | 23 => .int v0_token | 24 => .long v0_name | k => V0 k) o21 e21) (cwV 1 hts (gTV q804 q805 q806 q5 q807) rfl rfl rfl (by decide +kernel) ⟨Nat.le_of_ble_eq_true rfl, Nat.le_of_ble_eq_true rfl⟩) hK hP hD hS hA hE hAB [0, 1] [] [0] (wr := []) rfl rfl (by decide) (by decide) (by decide) rfl (ci := 11) (q0 := 0) rfl rfl rfl rfl hl.1 rfl (Nat.le_of_ble_eq_true rfl) dX11_next_60 ⟨Nat.zero_le _, Nat.zero_le _⟩ (fun r21 u21 H locs hw21 hP hD hS => ?_)
        obtain ⟨hw211, hw212⟩ := hw21
        subst hw211 hw212
        have hP : va_P (dC, dI) vwCl (wX11_next h0 h1 kc1 V0 v0_textSize v0_from v0_from v0_token v0_name c1) H := hP.sub [0, 1] rfl
        have hD : va_D A (wX11_next h0 h1 kc1 V0 v0_textSize v0_from v0_from v0_token v0_name c1) := hD.sub [0, 1] (by decide) rfl
        refine lv_istore_n (lv' := [(1, .int o21.1), (0, .ref h0)]) hx hb dX11_next_63 rfl hl (by decide) rfl (fun ls hl => ?_)
        refine lv_iload_n hx hb dX11_next_64 rfl (lv_at hl 0 rfl) ?_
        refine lv_if_ge (tgt := 76) hx hb dX11_next_65 (by decide) (fun cq22 => ?_) (fun cq22 => ?_)
        · replace hf := if_at hf cq22
          refine lv_iload_n hx hb dX11_next_76 rfl (lv_at hl 0 rfl) ?_
          refine lv_bipush (v := 97) hx hb dX11_next_77 (by decide +kernel) ?_
          refine lv_bipush (v := 122) hx hb dX11_next_79 (by decide +kernel) ?_
          obtain ⟨o23, e23, hf⟩ := ob_some hf
          refine kSi (As := [.int o21.1, .int 97, .int 122]) (rest := []) ⟨hx, hb, hml, hown, hts⟩ (mX11_in l dC dI H.size base o21.1 97 122 o23 e23) (va_cwS 3 hts (gTS q148 q149 q5 q150) rfl rfl rfl (by decide +kernel) ⟨Nat.le_of_ble_eq_true rfl, Nat.le_of_ble_eq_true rfl⟩) hK hP hD hS hA hE hAB [] [0, 1] [] (wr := (wX11_next h0 h1 kc1 V0 v0_textSize v0_from v0_from v0_token v0_name c1)) rfl rfl (by decide) (by decide) (by decide) rfl rfl hl.1 rfl (Nat.le_of_ble_eq_true rfl) dX11_next_81 ⟨Nat.zero_le _, Nat.zero_le _⟩ (fun r23 u23 H locs hw23 hP hD hS => ?_)
          obtain ⟨hw231, hw232⟩ := hw23
          subst hw231 hw232
          have hP : va_P (dC, dI) vwCl (wX11_next h0 h1 kc1 V0 v0_textSize v0_from v0_from v0_token v0_name c1) H := hP.sub [0, 1] rfl
          have hD : va_D A (wX11_next h0 h1 kc1 V0 v0_textSize v0_from v0_from v0_token v0_name c1) := hD.sub [0, 1] (by decide) rfl
          refine lv_if_eq (tgt := 201) hx hb dX11_next_84 (by decide) (fun cq24 => ?_) (fun cq24 => ?_)
          · replace hf := if_at hf cq24
            refine lv_aload_n hx hb dX11_next_201 rfl (lv_at hl 1 rfl) ?_
            refine lv_iload_n hx hb dX11_next_202 rfl (lv_at hl 0 rfl) ?_
            obtain ⟨o25, e25, hf⟩ := ob_some hf
            refine kSi (As := [.int o21.1]) (rest := [.ref h0]) ⟨hx, hb, hml, hown, hts⟩ (mX11_isSign l dC dI H.size base o21.1 o25 e25) (va_cwS 1 hts (gTS q824 q825 q5 q826) rfl rfl rfl (by decide +kernel) ⟨Nat.le_of_ble_eq_true rfl, Nat.le_of_ble_eq_true rfl⟩) hK hP hD hS hA hE hAB [] [0, 1] [] (wr := (wX11_next h0 h1 kc1 V0 v0_textSize v0_from v0_from v0_token v0_name c1)) rfl rfl (by decide) (by decide) (by decide) rfl rfl hl.1 rfl (Nat.le_of_ble_eq_true rfl) dX11_next_203 ⟨Nat.zero_le _, Nat.zero_le _⟩ (fun r25 u25 H locs hw25 hP hD hS => ?_)
            obtain ⟨hw251, hw252⟩ := hw25
            subst hw251 hw252
            have hP : va_P (dC, dI) vwCl (wX11_next h0 h1 kc1 V0 v0_textSize v0_from v0_from v0_token v0_name c1) H := hP.sub [0, 1] rfl
            have hD : va_D A (wX11_next h0 h1 kc1 V0 v0_textSize v0_from v0_from v0_token v0_name c1) := hD.sub [0, 1] (by decide) rfl
            refine lv_if_eq (tgt := 213) hx hb dX11_next_206 (by decide) (fun cq26 => ?_) (fun cq26 => ?_)
            · replace hf := if_at hf cq26
              refine lv_iconst (v := 4) hx hb dX11_next_213 (by decide +kernel) ?_
              exact (hG _ _ _ _ _).mp (J214 4 v0_from v0_from v0_token v0_name H locs ls (hP.sub [0, 1] rfl) (hD.sub [0, 1] (by decide) rfl) hS (lv_sub hl [1] rfl) hf)
            · replace hf := if_no hf cq26
              refine lv_iconst (v := 3) hx hb dX11_next_209 (by decide +kernel) ?_
              refine lv_goto (tgt := 214) hx hb dX11_next_210 (by decide) ?_
              exact (hG _ _ _ _ _).mp (J214 3 v0_from v0_from v0_token v0_name H locs ls (hP.sub [0, 1] rfl) (hD.sub [0, 1] (by decide) rfl) hS (lv_sub hl [1] rfl) hf)
          · replace hf := if_no hf cq24
            refine lv_aload_n hx hb dX11_next_87 rfl (lv_at hl 1 rfl) ?_
            refine lv_lconst (v := 0) hx hb dX11_next_88 (by decide) ?_
            refine va_put (D := (dC, dI)) (ci := 11) (v := .long 0) (ty := .long) (C := RX11) (T := TX11) (N := 71) hx hb hts inlX11 tyX11 tyX11_ok nmX11 hown hK hP hD hS 0 rfl rfl 24 (by decide) w3_ (fun _ h9 => h9) rfl (by decide +kernel) rfl rfl (Nat.le_of_ble_eq_true rfl) dX11_next_89 (fun H locs hP hD hS => ?_)
            have hP : va_P (dC, dI) vwCl (wX11_next h0 h1 kc1 V0 v0_textSize v0_from v0_from v0_token 0 c1) H := hP
            have hD : va_D A (wX11_next h0 h1 kc1 V0 v0_textSize v0_from v0_from v0_token 0 c1) := hD
            exact (hG _ _ _ _ _).mp (L92 FU v0_from v0_from v0_token 0 H locs ls (hP.sub [0, 1] rfl) (hD.sub [0, 1] (by decide) rfl) hS (lv_sub hl [1] rfl) hf)
        · replace hf := if_no hf cq22
          refine lv_aload_n hx hb dX11_next_68 rfl (lv_at hl 1 rfl) ?_
          refine lv_iconst (v := 0) hx hb dX11_next_69 (by decide +kernel) ?_
          refine va_put (D := (dC, dI)) (ci := 11) (v := .int 0) (ty := .int) (C := RX11) (T := TX11) (N := 71) hx hb hts inlX11 tyX11 tyX11_ok nmX11 hown hK hP hD hS 0 rfl rfl 23 (by decide) w1_ (fun _ h9 => h9) rfl (by decide +kernel) rfl rfl (Nat.le_of_ble_eq_true rfl) dX11_next_70 (fun H locs hP hD hS => ?_)
          have hP : va_P (dC, dI) vwCl (wX11_next h0 h1 kc1 V0 v0_textSize v0_from v0_from 0 v0_name c1) H := hP
          have hD : va_D A (wX11_next h0 h1 kc1 V0 v0_textSize v0_from v0_from 0 v0_name c1) := hD
          refine lv_goto (tgt := 227) hx hb dX11_next_73 (by decide) ?_
          exact (hG _ _ _ _ _).mp (J227 v0_from v0_from 0 v0_name H locs ls (hP.sub [0, 1] rfl) (hD.sub [0, 1] (by decide) rfl) hS (lv_sub hl [1] rfl) hf)
      · replace hf := if_at hf cq20
        exact (hG _ _ _ _ _).mp (J34 k8 hk8 v0_from v0_to v0_token v0_name H locs ls (hP.sub [0, 1] rfl) (hD.sub [0, 1] (by decide) rfl) hS (lv_sub hl [0] rfl) hf)
  have L8 : ∀ (n : Nat), ∀ (v0_from : Int32) (v0_to : Int32) (v0_token : Int32) (v0_name : Int64) (H : Heap) (locs : List Loc) (ls : Array Slot), va_P (dC, dI) vwCl (wX11_next h0 h1 kc1 V0 v0_textSize v0_from v0_to v0_token v0_name c1) H → va_D A (wX11_next h0 h1 kc1 V0 v0_textSize v0_from v0_to v0_token v0_name c1) → va_S A s.heap H locs → lv_has ls 2 [(0, .ref h0)] → fX11_next_l8 v0_textSize c1  n v0_from v0_to v0_token v0_name = some o → G 0 0 H locs (F0 m 8 ls []) := by
    intro  n
    induction n with
    | zero => intro v0_from v0_to v0_token v0_name H locs ls _ _ _ _ hf; cases hf
    | succ n ih => exact B8  _ ih
  refine (hG _ _ _ _ _).mpr ?_
  obtain ⟨H, hH⟩ : ∃ H, H = s.heap := ⟨_, rfl⟩
  have hS : va_S A s.heap H [] := by rw [hH]; exact hS
  rw [← hH] at hP ⊢
  generalize ([] : List Loc) = locs at hS ⊢
  unfold fX11_next at hf
  refine lv_aload_n hx hb dX11_next_0 rfl (lv_at hl 0 rfl) ?_
  refine lv_aload_n hx hb dX11_next_1 rfl (lv_at hl 0 rfl) ?_
  refine va_get (D := (dC, dI)) (ci := 11) (v := .int v0_to) (C := RX11) (T := TX11) (N := 71) hx hb hts inlX11 hown hK hP 0 rfl rfl 22 (by decide) w2_ (fun _ h9 => h9) rfl dX11_next_2 ?_
  refine va_put (D := (dC, dI)) (ci := 11) (v := .int v0_to) (ty := .int) (C := RX11) (T := TX11) (N := 71) hx hb hts inlX11 tyX11 tyX11_ok nmX11 hown hK hP hD hS 0 rfl rfl 21 (by decide) w0_ (fun _ h9 => h9) rfl (by decide +kernel) rfl rfl (Nat.le_of_ble_eq_true rfl) dX11_next_5 (fun H locs hP hD hS => ?_)
  have hP : va_P (dC, dI) vwCl (wX11_next h0 h1 kc1 V0 v0_textSize v0_to v0_to v0_token v0_name c1) H := hP
  have hD : va_D A (wX11_next h0 h1 kc1 V0 v0_textSize v0_to v0_to v0_token v0_name c1) := hD
  exact (hG _ _ _ _ _).mp (L8 FU v0_to v0_to v0_token v0_name H locs ls (hP.sub [0, 1] rfl) (hD.sub [0, 1] (by decide) rfl) hS (lv_sub hl [0] rfl) hf)
set_option maxHeartbeats 4000000 in
set_option maxRecDepth 100000 in
theorem mX11_may (l : Launch) (dC : Nat → ClassId) (dI : Nat → Nat → Nat) (h0 : Nat) (sz : Nat) (base : Nat × Nat × Nat) (a0 : Int32) (v0_from : Int32) (v0_token : Int32) (v0_wrong : Int32) (v0_wrongAt : Int32) (V0 : Nat → Value) (o : Int32 × Int32 × Int32) (hf : fX11_may a0 v0_from v0_token v0_wrong v0_wrongAt = some o) : Met l yX11_may (.code yX11_may cX11_may 2 (some .boolean) :: wsL_law) ({ frames := 1, cells := 0, slots := 0, locals := 22 }) (cPre (dC, dI) vwCl [.ref h0, .int a0] sz base [(h0, .inr (11, [V0 0, V0 1, V0 2, V0 3, V0 4, V0 5, V0 6, V0 7, V0 8, V0 9, V0 10, V0 11, V0 12, V0 13, V0 14, V0 15, V0 16, V0 17, V0 18, V0 19, V0 20, .int v0_from, V0 22, .int v0_token, V0 24, .int v0_wrong, .int v0_wrongAt, V0 27, V0 28, V0 29, V0 30, V0 31, V0 32, V0 33, V0 34, V0 35, V0 36, V0 37, V0 38, V0 39, V0 40, V0 41, V0 42, V0 43, V0 44, V0 45, V0 46, V0 47, V0 48, V0 49, V0 50, V0 51, V0 52, V0 53, V0 54, V0 55, V0 56, V0 57, V0 58, V0 59, V0 60, V0 61, V0 62, V0 63, V0 64, V0 65, V0 66, V0 67, V0 68, V0 69, V0 70]))] []) (va_Qi (fun r u => r = o.1 ∧ u = o.2) (fun (u : Int32 × Int32) t => cPost (dC, dI) vwCl (va_A [(h0, .inr (11, [V0 0, V0 1, V0 2, V0 3, V0 4, V0 5, V0 6, V0 7, V0 8, V0 9, V0 10, V0 11, V0 12, V0 13, V0 14, V0 15, V0 16, V0 17, V0 18, V0 19, V0 20, .int v0_from, V0 22, .int v0_token, V0 24, .int v0_wrong, .int v0_wrongAt, V0 27, V0 28, V0 29, V0 30, V0 31, V0 32, V0 33, V0 34, V0 35, V0 36, V0 37, V0 38, V0 39, V0 40, V0 41, V0 42, V0 43, V0 44, V0 45, V0 46, V0 47, V0 48, V0 49, V0 50, V0 51, V0 52, V0 53, V0 54, V0 55, V0 56, V0 57, V0 58, V0 59, V0 60, V0 61, V0 62, V0 63, V0 64, V0 65, V0 66, V0 67, V0 68, V0 69, V0 70]))] sz) [(h0, .inr (11, [V0 0, V0 1, V0 2, V0 3, V0 4, V0 5, V0 6, V0 7, V0 8, V0 9, V0 10, V0 11, V0 12, V0 13, V0 14, V0 15, V0 16, V0 17, V0 18, V0 19, V0 20, .int v0_from, V0 22, .int v0_token, V0 24, .int u.1, .int u.2, V0 27, V0 28, V0 29, V0 30, V0 31, V0 32, V0 33, V0 34, V0 35, V0 36, V0 37, V0 38, V0 39, V0 40, V0 41, V0 42, V0 43, V0 44, V0 45, V0 46, V0 47, V0 48, V0 49, V0 50, V0 51, V0 52, V0 53, V0 54, V0 55, V0 56, V0 57, V0 58, V0 59, V0 60, V0 61, V0 62, V0 63, V0 64, V0 65, V0 66, V0 67, V0 68, V0 69, V0 70]))] [] t) (va_A [(h0, .inr (11, [V0 0, V0 1, V0 2, V0 3, V0 4, V0 5, V0 6, V0 7, V0 8, V0 9, V0 10, V0 11, V0 12, V0 13, V0 14, V0 15, V0 16, V0 17, V0 18, V0 19, V0 20, .int v0_from, V0 22, .int v0_token, V0 24, .int v0_wrong, .int v0_wrongAt, V0 27, V0 28, V0 29, V0 30, V0 31, V0 32, V0 33, V0 34, V0 35, V0 36, V0 37, V0 38, V0 39, V0 40, V0 41, V0 42, V0 43, V0 44, V0 45, V0 46, V0 47, V0 48, V0 49, V0 50, V0 51, V0 52, V0 53, V0 54, V0 55, V0 56, V0 57, V0 58, V0 59, V0 60, V0 61, V0 62, V0 63, V0 64, V0 65, V0 66, V0 67, V0 68, V0 69, V0 70]))] sz)) 0 0 (va_A [(h0, .inr (11, [V0 0, V0 1, V0 2, V0 3, V0 4, V0 5, V0 6, V0 7, V0 8, V0 9, V0 10, V0 11, V0 12, V0 13, V0 14, V0 15, V0 16, V0 17, V0 18, V0 19, V0 20, .int v0_from, V0 22, .int v0_token, V0 24, .int v0_wrong, .int v0_wrongAt, V0 27, V0 28, V0 29, V0 30, V0 31, V0 32, V0 33, V0 34, V0 35, V0 36, V0 37, V0 38, V0 39, V0 40, V0 41, V0 42, V0 43, V0 44, V0 45, V0 46, V0 47, V0 48, V0 49, V0 50, V0 51, V0 52, V0 53, V0 54, V0 55, V0 56, V0 57, V0 58, V0 59, V0 60, V0 61, V0 62, V0 63, V0 64, V0 65, V0 66, V0 67, V0 68, V0 69, V0 70]))] sz) := by
  refine Met.ofW (cc := cX11_may) (maxL := 2) (ret := (some .boolean)) (by decide) rfl ?_
  intro p e s m args below meth c s₁ B hml hv
  obtain ⟨rfl, hsz, hP, hK, hD0, hE⟩ := hv
  have hx := B.exec
  have hb := B.bytes
  have hr := B.returns
  have hts : ∀ w ∈ wsL_law, _ := fun w h => atoms_spec (ws := .code yX11_may cX11_may 2 (some .boolean) :: wsL_law) B.pre w (List.mem_cons_of_mem _ h)
  have hown : s.vm.findClass RX11 = some m.cls := findClass_of_methodNamed B.named
  have hlocks := B.notSynchronized
  have w0_ := hts _ q793
  have w1_ := hts _ q802
  have w2_ := hts _ q801
  subst hsz
  have hD := hD0.self (sz := s.heap.size)
  generalize hAe : va_A [(h0, .inr (11, [V0 0, V0 1, V0 2, V0 3, V0 4, V0 5, V0 6, V0 7, V0 8, V0 9, V0 10, V0 11, V0 12, V0 13, V0 14, V0 15, V0 16, V0 17, V0 18, V0 19, V0 20, .int v0_from, V0 22, .int v0_token, V0 24, .int v0_wrong, .int v0_wrongAt, V0 27, V0 28, V0 29, V0 30, V0 31, V0 32, V0 33, V0 34, V0 35, V0 36, V0 37, V0 38, V0 39, V0 40, V0 41, V0 42, V0 43, V0 44, V0 45, V0 46, V0 47, V0 48, V0 49, V0 50, V0 51, V0 52, V0 53, V0 54, V0 55, V0 56, V0 57, V0 58, V0 59, V0 60, V0 61, V0 62, V0 63, V0 64, V0 65, V0 66, V0 67, V0 68, V0 69, V0 70]))] s.heap.size = A at hD ⊢
  have hA : ∀ q : Nat, s.heap.size ≤ q → A q := fun q h => by rw [← hAe]; exact Or.inr h
  have hAB : ∀ q : Nat, A q → base.1 ≤ q := fun q h => by rw [← hAe] at h; exact h.elim (fun ⟨k, e, hk⟩ => hD0.2 k _ hk) (fun hk => Nat.le_trans hE.1 hk)
  have hS : va_S A s.heap s.heap [] := va_S.rf
  have hl := lv_entry ([.ref h0, .int a0]) (n := 2) (Nat.le_of_ble_eq_true rfl)
  rw [lg_entry_eq]
  generalize (lg_sl ([.ref h0, .int a0]) ++ List.replicate (2 - (lg_sl ([.ref h0, .int a0])).length) Slot.unset).toArray = ls at hl ⊢
  have hl : lv_has ls 2 [(0, .ref h0), (1, .int a0)] := hl
  have hP : va_P (dC, dI) vwCl [(h0, .inr (11, [V0 0, V0 1, V0 2, V0 3, V0 4, V0 5, V0 6, V0 7, V0 8, V0 9, V0 10, V0 11, V0 12, V0 13, V0 14, V0 15, V0 16, V0 17, V0 18, V0 19, V0 20, .int v0_from, V0 22, .int v0_token, V0 24, .int v0_wrong, .int v0_wrongAt, V0 27, V0 28, V0 29, V0 30, V0 31, V0 32, V0 33, V0 34, V0 35, V0 36, V0 37, V0 38, V0 39, V0 40, V0 41, V0 42, V0 43, V0 44, V0 45, V0 46, V0 47, V0 48, V0 49, V0 50, V0 51, V0 52, V0 53, V0 54, V0 55, V0 56, V0 57, V0 58, V0 59, V0 60, V0 61, V0 62, V0 63, V0 64, V0 65, V0 66, V0 67, V0 68, V0 69, V0 70]))] s.heap := hP
  refine gl_intro (fun G hG => ?_)
  have J51 : ∀ (z0 : Int32) (v0_wrong : Int32) (v0_wrongAt : Int32) (H : Heap) (locs : List Loc) (ls : Array Slot), va_P (dC, dI) vwCl [(h0, .inr (11, [V0 0, V0 1, V0 2, V0 3, V0 4, V0 5, V0 6, V0 7, V0 8, V0 9, V0 10, V0 11, V0 12, V0 13, V0 14, V0 15, V0 16, V0 17, V0 18, V0 19, V0 20, .int v0_from, V0 22, .int v0_token, V0 24, .int v0_wrong, .int v0_wrongAt, V0 27, V0 28, V0 29, V0 30, V0 31, V0 32, V0 33, V0 34, V0 35, V0 36, V0 37, V0 38, V0 39, V0 40, V0 41, V0 42, V0 43, V0 44, V0 45, V0 46, V0 47, V0 48, V0 49, V0 50, V0 51, V0 52, V0 53, V0 54, V0 55, V0 56, V0 57, V0 58, V0 59, V0 60, V0 61, V0 62, V0 63, V0 64, V0 65, V0 66, V0 67, V0 68, V0 69, V0 70]))] H → va_D A [(h0, .inr (11, [V0 0, V0 1, V0 2, V0 3, V0 4, V0 5, V0 6, V0 7, V0 8, V0 9, V0 10, V0 11, V0 12, V0 13, V0 14, V0 15, V0 16, V0 17, V0 18, V0 19, V0 20, .int v0_from, V0 22, .int v0_token, V0 24, .int v0_wrong, .int v0_wrongAt, V0 27, V0 28, V0 29, V0 30, V0 31, V0 32, V0 33, V0 34, V0 35, V0 36, V0 37, V0 38, V0 39, V0 40, V0 41, V0 42, V0 43, V0 44, V0 45, V0 46, V0 47, V0 48, V0 49, V0 50, V0 51, V0 52, V0 53, V0 54, V0 55, V0 56, V0 57, V0 58, V0 59, V0 60, V0 61, V0 62, V0 63, V0 64, V0 65, V0 66, V0 67, V0 68, V0 69, V0 70]))] → va_S A s.heap H locs → lv_has ls 2 [(0, .ref h0)] → fX11_may_p51 v0_from v0_token  z0 v0_wrong v0_wrongAt = some o → G 0 0 H locs (F0 m 51 ls [.int z0]) := by
    intro  z0 v0_wrong v0_wrongAt H locs ls hP hD hS hl hf
    refine (hG _ _ _ _ _).mpr ?_
    unfold fX11_may_p51 at hf
    have b1 := bd_b hf
    replace hf := bd_k hf
    have hf1 := Option.some.inj hf
    subst hf1
    have hP9 := hP.sub (ws' := [(h0, .inr (11, [V0 0, V0 1, V0 2, V0 3, V0 4, V0 5, V0 6, V0 7, V0 8, V0 9, V0 10, V0 11, V0 12, V0 13, V0 14, V0 15, V0 16, V0 17, V0 18, V0 19, V0 20, .int v0_from, V0 22, .int v0_token, V0 24, .int v0_wrong, .int v0_wrongAt, V0 27, V0 28, V0 29, V0 30, V0 31, V0 32, V0 33, V0 34, V0 35, V0 36, V0 37, V0 38, V0 39, V0 40, V0 41, V0 42, V0 43, V0 44, V0 45, V0 46, V0 47, V0 48, V0 49, V0 50, V0 51, V0 52, V0 53, V0 54, V0 55, V0 56, V0 57, V0 58, V0 59, V0 60, V0 61, V0 62, V0 63, V0 64, V0 65, V0 66, V0 67, V0 68, V0 69, V0 70]))]) [0] rfl
    have hD9 := hD.sub (ws' := [(h0, .inr (11, [V0 0, V0 1, V0 2, V0 3, V0 4, V0 5, V0 6, V0 7, V0 8, V0 9, V0 10, V0 11, V0 12, V0 13, V0 14, V0 15, V0 16, V0 17, V0 18, V0 19, V0 20, .int v0_from, V0 22, .int v0_token, V0 24, .int v0_wrong, .int v0_wrongAt, V0 27, V0 28, V0 29, V0 30, V0 31, V0 32, V0 33, V0 34, V0 35, V0 36, V0 37, V0 38, V0 39, V0 40, V0 41, V0 42, V0 43, V0 44, V0 45, V0 46, V0 47, V0 48, V0 49, V0 50, V0 51, V0 52, V0 53, V0 54, V0 55, V0 56, V0 57, V0 58, V0 59, V0 60, V0 61, V0 62, V0 63, V0 64, V0 65, V0 66, V0 67, V0 68, V0 69, V0 70]))]) [0] (by decide) rfl
    exact W.zret (v := z0) (ty := .boolean) hx hb hr (bz_nar b1) (fun t ht hW => ⟨⟨z0, (v0_wrong, v0_wrongAt), rfl, ⟨rfl, rfl⟩, by rw [ht]; exact hP9, va_K.moved hW.alike hK, hD9⟩, hS.F ht⟩) hS.2.2 dX11_may_51
  have J50 : ∀ (v0_wrong : Int32) (v0_wrongAt : Int32) (H : Heap) (locs : List Loc) (ls : Array Slot), va_P (dC, dI) vwCl [(h0, .inr (11, [V0 0, V0 1, V0 2, V0 3, V0 4, V0 5, V0 6, V0 7, V0 8, V0 9, V0 10, V0 11, V0 12, V0 13, V0 14, V0 15, V0 16, V0 17, V0 18, V0 19, V0 20, .int v0_from, V0 22, .int v0_token, V0 24, .int v0_wrong, .int v0_wrongAt, V0 27, V0 28, V0 29, V0 30, V0 31, V0 32, V0 33, V0 34, V0 35, V0 36, V0 37, V0 38, V0 39, V0 40, V0 41, V0 42, V0 43, V0 44, V0 45, V0 46, V0 47, V0 48, V0 49, V0 50, V0 51, V0 52, V0 53, V0 54, V0 55, V0 56, V0 57, V0 58, V0 59, V0 60, V0 61, V0 62, V0 63, V0 64, V0 65, V0 66, V0 67, V0 68, V0 69, V0 70]))] H → va_D A [(h0, .inr (11, [V0 0, V0 1, V0 2, V0 3, V0 4, V0 5, V0 6, V0 7, V0 8, V0 9, V0 10, V0 11, V0 12, V0 13, V0 14, V0 15, V0 16, V0 17, V0 18, V0 19, V0 20, .int v0_from, V0 22, .int v0_token, V0 24, .int v0_wrong, .int v0_wrongAt, V0 27, V0 28, V0 29, V0 30, V0 31, V0 32, V0 33, V0 34, V0 35, V0 36, V0 37, V0 38, V0 39, V0 40, V0 41, V0 42, V0 43, V0 44, V0 45, V0 46, V0 47, V0 48, V0 49, V0 50, V0 51, V0 52, V0 53, V0 54, V0 55, V0 56, V0 57, V0 58, V0 59, V0 60, V0 61, V0 62, V0 63, V0 64, V0 65, V0 66, V0 67, V0 68, V0 69, V0 70]))] → va_S A s.heap H locs → lv_has ls 2 [(0, .ref h0)] → fX11_may_p50 v0_from v0_token  v0_wrong v0_wrongAt = some o → G 0 0 H locs (F0 m 50 ls []) := by
    intro  v0_wrong v0_wrongAt H locs ls hP hD hS hl hf
    refine (hG _ _ _ _ _).mpr ?_
    unfold fX11_may_p50 at hf
    refine lv_iconst (v := 0) hx hb dX11_may_50 (by decide +kernel) ?_
    exact (hG _ _ _ _ _).mp (J51 0 v0_wrong v0_wrongAt H locs ls (hP.sub [0] rfl) (hD.sub [0] (by decide) rfl) hS (lv_sub hl [0] rfl) hf)
  have J46 : ∀ (v0_wrong : Int32) (v0_wrongAt : Int32) (H : Heap) (locs : List Loc) (ls : Array Slot), va_P (dC, dI) vwCl [(h0, .inr (11, [V0 0, V0 1, V0 2, V0 3, V0 4, V0 5, V0 6, V0 7, V0 8, V0 9, V0 10, V0 11, V0 12, V0 13, V0 14, V0 15, V0 16, V0 17, V0 18, V0 19, V0 20, .int v0_from, V0 22, .int v0_token, V0 24, .int v0_wrong, .int v0_wrongAt, V0 27, V0 28, V0 29, V0 30, V0 31, V0 32, V0 33, V0 34, V0 35, V0 36, V0 37, V0 38, V0 39, V0 40, V0 41, V0 42, V0 43, V0 44, V0 45, V0 46, V0 47, V0 48, V0 49, V0 50, V0 51, V0 52, V0 53, V0 54, V0 55, V0 56, V0 57, V0 58, V0 59, V0 60, V0 61, V0 62, V0 63, V0 64, V0 65, V0 66, V0 67, V0 68, V0 69, V0 70]))] H → va_D A [(h0, .inr (11, [V0 0, V0 1, V0 2, V0 3, V0 4, V0 5, V0 6, V0 7, V0 8, V0 9, V0 10, V0 11, V0 12, V0 13, V0 14, V0 15, V0 16, V0 17, V0 18, V0 19, V0 20, .int v0_from, V0 22, .int v0_token, V0 24, .int v0_wrong, .int v0_wrongAt, V0 27, V0 28, V0 29, V0 30, V0 31, V0 32, V0 33, V0 34, V0 35, V0 36, V0 37, V0 38, V0 39, V0 40, V0 41, V0 42, V0 43, V0 44, V0 45, V0 46, V0 47, V0 48, V0 49, V0 50, V0 51, V0 52, V0 53, V0 54, V0 55, V0 56, V0 57, V0 58, V0 59, V0 60, V0 61, V0 62, V0 63, V0 64, V0 65, V0 66, V0 67, V0 68, V0 69, V0 70]))] → va_S A s.heap H locs → lv_has ls 2 [(0, .ref h0)] → fX11_may_p46 v0_from v0_token  v0_wrong v0_wrongAt = some o → G 0 0 H locs (F0 m 46 ls []) := by
    intro  v0_wrong v0_wrongAt H locs ls hP hD hS hl hf
    refine (hG _ _ _ _ _).mpr ?_
    unfold fX11_may_p46 at hf
    refine lv_iconst (v := 1) hx hb dX11_may_46 (by decide +kernel) ?_
    refine lv_goto (tgt := 51) hx hb dX11_may_47 (by decide) ?_
    exact (hG _ _ _ _ _).mp (J51 1 v0_wrong v0_wrongAt H locs ls (hP.sub [0] rfl) (hD.sub [0] (by decide) rfl) hS (lv_sub hl [0] rfl) hf)
  refine (hG _ _ _ _ _).mpr ?_
  obtain ⟨H, hH⟩ : ∃ H, H = s.heap := ⟨_, rfl⟩
  have hS : va_S A s.heap H [] := by rw [hH]; exact hS
  rw [← hH] at hP ⊢
  generalize ([] : List Loc) = locs at hS ⊢
  unfold fX11_may at hf
  refine lv_aload_n hx hb dX11_may_0 rfl (lv_at hl 0 rfl) ?_
  refine va_get (D := (dC, dI)) (ci := 11) (v := .int v0_wrong) (C := RX11) (T := TX11) (N := 71) hx hb hts inlX11 hown hK hP 0 rfl rfl 25 (by decide) w0_ (fun _ h9 => h9) rfl dX11_may_1 ?_
  refine lv_if_ne (tgt := 50) hx hb dX11_may_4 (by decide) (fun cq2 => ?_) (fun cq2 => ?_)
  · replace hf := if_no hf cq2
    exact (hG _ _ _ _ _).mp (J50 v0_wrong v0_wrongAt H locs ls (hP.sub [0] rfl) (hD.sub [0] (by decide) rfl) hS (lv_sub hl [0] rfl) hf)
  · replace hf := if_at hf cq2
    refine lv_aload_n hx hb dX11_may_7 rfl (lv_at hl 0 rfl) ?_
    refine va_get (D := (dC, dI)) (ci := 11) (v := .int v0_token) (C := RX11) (T := TX11) (N := 71) hx hb hts inlX11 hown hK hP 0 rfl rfl 23 (by decide) w1_ (fun _ h9 => h9) rfl dX11_may_8 ?_
    refine lv_iconst (v := 4) hx hb dX11_may_11 (by decide +kernel) ?_
    refine lv_icmp_ne (tgt := 30) hx hb dX11_may_12 (by decide) (fun cq3 => ?_) (fun cq3 => ?_)
    · replace hf := if_no hf cq3
      refine lv_iload_n hx hb dX11_may_30 rfl (lv_at hl 1 rfl) ?_
      refine lv_if_ne (tgt := 46) hx hb dX11_may_31 (by decide) (fun cq4 => ?_) (fun cq4 => ?_)
      · replace hf := if_no hf cq4
        exact (hG _ _ _ _ _).mp (J46 v0_wrong v0_wrongAt H locs ls (hP.sub [0] rfl) (hD.sub [0] (by decide) rfl) hS (lv_sub hl [0] rfl) hf)
      · replace hf := if_at hf cq4
        refine lv_aload_n hx hb dX11_may_34 rfl (lv_at hl 0 rfl) ?_
        refine lv_iconst (v := 2) hx hb dX11_may_35 (by decide +kernel) ?_
        refine lv_aload_n hx hb dX11_may_36 rfl (lv_at hl 0 rfl) ?_
        refine va_get (D := (dC, dI)) (ci := 11) (v := .int v0_from) (C := RX11) (T := TX11) (N := 71) hx hb hts inlX11 hown hK hP 0 rfl rfl 21 (by decide) w2_ (fun _ h9 => h9) rfl dX11_may_37 ?_
        obtain ⟨o5, e5, hf⟩ := ob_some hf
        refine kVi (As := [.int 2, .int v0_from]) (rest := []) ⟨hx, hb, hml, hown, hts⟩ (mX11_fail l dC dI h0 H.size base 2 v0_from v0_wrong v0_wrongAt (fun k => match k with | 21 => .int v0_from | 23 => .int v0_token | k => V0 k) o5 e5) (cwV 2 hts (gTV q840 q841 q842 q5 q843) rfl rfl rfl (by decide +kernel) ⟨Nat.le_of_ble_eq_true rfl, Nat.le_of_ble_eq_true rfl⟩) hK hP hD hS hA hE hAB [0] [] [] (wr := []) rfl rfl (by decide) (by decide) (by decide) rfl (ci := 11) (q0 := 0) rfl rfl rfl rfl hl.1 rfl (Nat.le_of_ble_eq_true rfl) dX11_may_40 ⟨Nat.zero_le _, Nat.zero_le _⟩ (fun r5 u5 H locs hw5 hP hD hS => ?_)
        obtain ⟨hw51, hw52⟩ := hw5
        subst hw51 hw52
        have hP : va_P (dC, dI) vwCl [(h0, .inr (11, [V0 0, V0 1, V0 2, V0 3, V0 4, V0 5, V0 6, V0 7, V0 8, V0 9, V0 10, V0 11, V0 12, V0 13, V0 14, V0 15, V0 16, V0 17, V0 18, V0 19, V0 20, .int v0_from, V0 22, .int v0_token, V0 24, .int o5.2.1, .int o5.2.2, V0 27, V0 28, V0 29, V0 30, V0 31, V0 32, V0 33, V0 34, V0 35, V0 36, V0 37, V0 38, V0 39, V0 40, V0 41, V0 42, V0 43, V0 44, V0 45, V0 46, V0 47, V0 48, V0 49, V0 50, V0 51, V0 52, V0 53, V0 54, V0 55, V0 56, V0 57, V0 58, V0 59, V0 60, V0 61, V0 62, V0 63, V0 64, V0 65, V0 66, V0 67, V0 68, V0 69, V0 70]))] H := hP.sub [0] rfl
        have hD : va_D A [(h0, .inr (11, [V0 0, V0 1, V0 2, V0 3, V0 4, V0 5, V0 6, V0 7, V0 8, V0 9, V0 10, V0 11, V0 12, V0 13, V0 14, V0 15, V0 16, V0 17, V0 18, V0 19, V0 20, .int v0_from, V0 22, .int v0_token, V0 24, .int o5.2.1, .int o5.2.2, V0 27, V0 28, V0 29, V0 30, V0 31, V0 32, V0 33, V0 34, V0 35, V0 36, V0 37, V0 38, V0 39, V0 40, V0 41, V0 42, V0 43, V0 44, V0 45, V0 46, V0 47, V0 48, V0 49, V0 50, V0 51, V0 52, V0 53, V0 54, V0 55, V0 56, V0 57, V0 58, V0 59, V0 60, V0 61, V0 62, V0 63, V0 64, V0 65, V0 66, V0 67, V0 68, V0 69, V0 70]))] := hD.sub [0] (by decide) rfl
        refine lv_if_eq (tgt := 50) hx hb dX11_may_43 (by decide) (fun cq6 => ?_) (fun cq6 => ?_)
        · replace hf := if_at hf cq6
          exact (hG _ _ _ _ _).mp (J50 o5.2.1 o5.2.2 H locs ls (hP.sub [0] rfl) (hD.sub [0] (by decide) rfl) hS (lv_sub hl [0] rfl) hf)
        · replace hf := if_no hf cq6
          exact (hG _ _ _ _ _).mp (J46 o5.2.1 o5.2.2 H locs ls (hP.sub [0] rfl) (hD.sub [0] (by decide) rfl) hS (lv_sub hl [0] rfl) hf)
    · replace hf := if_at hf cq3
      refine lv_aload_n hx hb dX11_may_15 rfl (lv_at hl 0 rfl) ?_
      refine lv_iconst (v := 1) hx hb dX11_may_16 (by decide +kernel) ?_
      refine lv_aload_n hx hb dX11_may_17 rfl (lv_at hl 0 rfl) ?_
      refine va_get (D := (dC, dI)) (ci := 11) (v := .int v0_from) (C := RX11) (T := TX11) (N := 71) hx hb hts inlX11 hown hK hP 0 rfl rfl 21 (by decide) w2_ (fun _ h9 => h9) rfl dX11_may_18 ?_
      obtain ⟨o7, e7, hf⟩ := ob_some hf
      refine kVi (As := [.int 1, .int v0_from]) (rest := []) ⟨hx, hb, hml, hown, hts⟩ (mX11_fail l dC dI h0 H.size base 1 v0_from v0_wrong v0_wrongAt (fun k => match k with | 21 => .int v0_from | 23 => .int v0_token | k => V0 k) o7 e7) (cwV 2 hts (gTV q840 q841 q842 q5 q843) rfl rfl rfl (by decide +kernel) ⟨Nat.le_of_ble_eq_true rfl, Nat.le_of_ble_eq_true rfl⟩) hK hP hD hS hA hE hAB [0] [] [] (wr := []) rfl rfl (by decide) (by decide) (by decide) rfl (ci := 11) (q0 := 0) rfl rfl rfl rfl hl.1 rfl (Nat.le_of_ble_eq_true rfl) dX11_may_21 ⟨Nat.zero_le _, Nat.zero_le _⟩ (fun r7 u7 H locs hw7 hP hD hS => ?_)
      obtain ⟨hw71, hw72⟩ := hw7
      subst hw71 hw72
      have hP : va_P (dC, dI) vwCl [(h0, .inr (11, [V0 0, V0 1, V0 2, V0 3, V0 4, V0 5, V0 6, V0 7, V0 8, V0 9, V0 10, V0 11, V0 12, V0 13, V0 14, V0 15, V0 16, V0 17, V0 18, V0 19, V0 20, .int v0_from, V0 22, .int v0_token, V0 24, .int o7.2.1, .int o7.2.2, V0 27, V0 28, V0 29, V0 30, V0 31, V0 32, V0 33, V0 34, V0 35, V0 36, V0 37, V0 38, V0 39, V0 40, V0 41, V0 42, V0 43, V0 44, V0 45, V0 46, V0 47, V0 48, V0 49, V0 50, V0 51, V0 52, V0 53, V0 54, V0 55, V0 56, V0 57, V0 58, V0 59, V0 60, V0 61, V0 62, V0 63, V0 64, V0 65, V0 66, V0 67, V0 68, V0 69, V0 70]))] H := hP.sub [0] rfl
      have hD : va_D A [(h0, .inr (11, [V0 0, V0 1, V0 2, V0 3, V0 4, V0 5, V0 6, V0 7, V0 8, V0 9, V0 10, V0 11, V0 12, V0 13, V0 14, V0 15, V0 16, V0 17, V0 18, V0 19, V0 20, .int v0_from, V0 22, .int v0_token, V0 24, .int o7.2.1, .int o7.2.2, V0 27, V0 28, V0 29, V0 30, V0 31, V0 32, V0 33, V0 34, V0 35, V0 36, V0 37, V0 38, V0 39, V0 40, V0 41, V0 42, V0 43, V0 44, V0 45, V0 46, V0 47, V0 48, V0 49, V0 50, V0 51, V0 52, V0 53, V0 54, V0 55, V0 56, V0 57, V0 58, V0 59, V0 60, V0 61, V0 62, V0 63, V0 64, V0 65, V0 66, V0 67, V0 68, V0 69, V0 70]))] := hD.sub [0] (by decide) rfl
      refine lv_if_eq (tgt := 50) hx hb dX11_may_24 (by decide) (fun cq8 => ?_) (fun cq8 => ?_)
      · replace hf := if_at hf cq8
        exact (hG _ _ _ _ _).mp (J50 o7.2.1 o7.2.2 H locs ls (hP.sub [0] rfl) (hD.sub [0] (by decide) rfl) hS (lv_sub hl [0] rfl) hf)
      · replace hf := if_no hf cq8
        refine lv_goto (tgt := 46) hx hb dX11_may_27 (by decide) ?_
        exact (hG _ _ _ _ _).mp (J46 o7.2.1 o7.2.2 H locs ls (hP.sub [0] rfl) (hD.sub [0] (by decide) rfl) hS (lv_sub hl [0] rfl) hf)
set_option maxHeartbeats 4000000 in
set_option maxRecDepth 100000 in
theorem mX11_isThe (l : Launch) (dC : Nat → ClassId) (dI : Nat → Nat → Nat) (h0 : Nat) (sz : Nat) (base : Nat × Nat × Nat) (a0 : Int64) (v0_token : Int32) (v0_name : Int64) (V0 : Nat → Value) (o : Int32 × Unit) (hf : fX11_isThe a0 v0_token v0_name = some o) : Met l yX11_isThe (.code yX11_isThe cX11_isThe 3 (some .boolean) :: wsL_law) ({ frames := 0, cells := 0, slots := 0, locals := 0 }) (cPre (dC, dI) vwCl [.ref h0, .long a0] sz base [(h0, .inr (11, [V0 0, V0 1, V0 2, V0 3, V0 4, V0 5, V0 6, V0 7, V0 8, V0 9, V0 10, V0 11, V0 12, V0 13, V0 14, V0 15, V0 16, V0 17, V0 18, V0 19, V0 20, V0 21, V0 22, .int v0_token, .long v0_name, V0 25, V0 26, V0 27, V0 28, V0 29, V0 30, V0 31, V0 32, V0 33, V0 34, V0 35, V0 36, V0 37, V0 38, V0 39, V0 40, V0 41, V0 42, V0 43, V0 44, V0 45, V0 46, V0 47, V0 48, V0 49, V0 50, V0 51, V0 52, V0 53, V0 54, V0 55, V0 56, V0 57, V0 58, V0 59, V0 60, V0 61, V0 62, V0 63, V0 64, V0 65, V0 66, V0 67, V0 68, V0 69, V0 70]))] []) (va_Qi (fun r u => r = o.1 ∧ u = o.2) (fun (u : Unit) t => cPost (dC, dI) vwCl (va_A [(h0, .inr (11, [V0 0, V0 1, V0 2, V0 3, V0 4, V0 5, V0 6, V0 7, V0 8, V0 9, V0 10, V0 11, V0 12, V0 13, V0 14, V0 15, V0 16, V0 17, V0 18, V0 19, V0 20, V0 21, V0 22, .int v0_token, .long v0_name, V0 25, V0 26, V0 27, V0 28, V0 29, V0 30, V0 31, V0 32, V0 33, V0 34, V0 35, V0 36, V0 37, V0 38, V0 39, V0 40, V0 41, V0 42, V0 43, V0 44, V0 45, V0 46, V0 47, V0 48, V0 49, V0 50, V0 51, V0 52, V0 53, V0 54, V0 55, V0 56, V0 57, V0 58, V0 59, V0 60, V0 61, V0 62, V0 63, V0 64, V0 65, V0 66, V0 67, V0 68, V0 69, V0 70]))] sz) [(h0, .inr (11, [V0 0, V0 1, V0 2, V0 3, V0 4, V0 5, V0 6, V0 7, V0 8, V0 9, V0 10, V0 11, V0 12, V0 13, V0 14, V0 15, V0 16, V0 17, V0 18, V0 19, V0 20, V0 21, V0 22, .int v0_token, .long v0_name, V0 25, V0 26, V0 27, V0 28, V0 29, V0 30, V0 31, V0 32, V0 33, V0 34, V0 35, V0 36, V0 37, V0 38, V0 39, V0 40, V0 41, V0 42, V0 43, V0 44, V0 45, V0 46, V0 47, V0 48, V0 49, V0 50, V0 51, V0 52, V0 53, V0 54, V0 55, V0 56, V0 57, V0 58, V0 59, V0 60, V0 61, V0 62, V0 63, V0 64, V0 65, V0 66, V0 67, V0 68, V0 69, V0 70]))] [] t) (va_A [(h0, .inr (11, [V0 0, V0 1, V0 2, V0 3, V0 4, V0 5, V0 6, V0 7, V0 8, V0 9, V0 10, V0 11, V0 12, V0 13, V0 14, V0 15, V0 16, V0 17, V0 18, V0 19, V0 20, V0 21, V0 22, .int v0_token, .long v0_name, V0 25, V0 26, V0 27, V0 28, V0 29, V0 30, V0 31, V0 32, V0 33, V0 34, V0 35, V0 36, V0 37, V0 38, V0 39, V0 40, V0 41, V0 42, V0 43, V0 44, V0 45, V0 46, V0 47, V0 48, V0 49, V0 50, V0 51, V0 52, V0 53, V0 54, V0 55, V0 56, V0 57, V0 58, V0 59, V0 60, V0 61, V0 62, V0 63, V0 64, V0 65, V0 66, V0 67, V0 68, V0 69, V0 70]))] sz)) 0 0 (va_A [(h0, .inr (11, [V0 0, V0 1, V0 2, V0 3, V0 4, V0 5, V0 6, V0 7, V0 8, V0 9, V0 10, V0 11, V0 12, V0 13, V0 14, V0 15, V0 16, V0 17, V0 18, V0 19, V0 20, V0 21, V0 22, .int v0_token, .long v0_name, V0 25, V0 26, V0 27, V0 28, V0 29, V0 30, V0 31, V0 32, V0 33, V0 34, V0 35, V0 36, V0 37, V0 38, V0 39, V0 40, V0 41, V0 42, V0 43, V0 44, V0 45, V0 46, V0 47, V0 48, V0 49, V0 50, V0 51, V0 52, V0 53, V0 54, V0 55, V0 56, V0 57, V0 58, V0 59, V0 60, V0 61, V0 62, V0 63, V0 64, V0 65, V0 66, V0 67, V0 68, V0 69, V0 70]))] sz) := by
  refine Met.ofW (cc := cX11_isThe) (maxL := 3) (ret := (some .boolean)) (by decide) rfl ?_
  intro p e s m args below meth c s₁ B hml hv
  obtain ⟨rfl, hsz, hP, hK, hD0, hE⟩ := hv
  have hx := B.exec
  have hb := B.bytes
  have hr := B.returns
  have hts : ∀ w ∈ wsL_law, _ := fun w h => atoms_spec (ws := .code yX11_isThe cX11_isThe 3 (some .boolean) :: wsL_law) B.pre w (List.mem_cons_of_mem _ h)
  have hown : s.vm.findClass RX11 = some m.cls := findClass_of_methodNamed B.named
  have hlocks := B.notSynchronized
  have w0_ := hts _ q802
  have w1_ := hts _ q803
  subst hsz
  have hD := hD0.self (sz := s.heap.size)
  generalize hAe : va_A [(h0, .inr (11, [V0 0, V0 1, V0 2, V0 3, V0 4, V0 5, V0 6, V0 7, V0 8, V0 9, V0 10, V0 11, V0 12, V0 13, V0 14, V0 15, V0 16, V0 17, V0 18, V0 19, V0 20, V0 21, V0 22, .int v0_token, .long v0_name, V0 25, V0 26, V0 27, V0 28, V0 29, V0 30, V0 31, V0 32, V0 33, V0 34, V0 35, V0 36, V0 37, V0 38, V0 39, V0 40, V0 41, V0 42, V0 43, V0 44, V0 45, V0 46, V0 47, V0 48, V0 49, V0 50, V0 51, V0 52, V0 53, V0 54, V0 55, V0 56, V0 57, V0 58, V0 59, V0 60, V0 61, V0 62, V0 63, V0 64, V0 65, V0 66, V0 67, V0 68, V0 69, V0 70]))] s.heap.size = A at hD ⊢
  have hA : ∀ q : Nat, s.heap.size ≤ q → A q := fun q h => by rw [← hAe]; exact Or.inr h
  have hAB : ∀ q : Nat, A q → base.1 ≤ q := fun q h => by rw [← hAe] at h; exact h.elim (fun ⟨k, e, hk⟩ => hD0.2 k _ hk) (fun hk => Nat.le_trans hE.1 hk)
  have hS : va_S A s.heap s.heap [] := va_S.rf
  have hl := lv_entry ([.ref h0, .long a0]) (n := 3) (Nat.le_of_ble_eq_true rfl)
  rw [lg_entry_eq]
  generalize (lg_sl ([.ref h0, .long a0]) ++ List.replicate (3 - (lg_sl ([.ref h0, .long a0])).length) Slot.unset).toArray = ls at hl ⊢
  have hl : lv_has ls 3 [(0, .ref h0), (1, .long a0)] := hl
  have hP : va_P (dC, dI) vwCl [(h0, .inr (11, [V0 0, V0 1, V0 2, V0 3, V0 4, V0 5, V0 6, V0 7, V0 8, V0 9, V0 10, V0 11, V0 12, V0 13, V0 14, V0 15, V0 16, V0 17, V0 18, V0 19, V0 20, V0 21, V0 22, .int v0_token, .long v0_name, V0 25, V0 26, V0 27, V0 28, V0 29, V0 30, V0 31, V0 32, V0 33, V0 34, V0 35, V0 36, V0 37, V0 38, V0 39, V0 40, V0 41, V0 42, V0 43, V0 44, V0 45, V0 46, V0 47, V0 48, V0 49, V0 50, V0 51, V0 52, V0 53, V0 54, V0 55, V0 56, V0 57, V0 58, V0 59, V0 60, V0 61, V0 62, V0 63, V0 64, V0 65, V0 66, V0 67, V0 68, V0 69, V0 70]))] s.heap := hP
  refine gl_intro (fun G hG => ?_)
  have J22 : ∀ (z0 : Int32) (H : Heap) (locs : List Loc) (ls : Array Slot), va_P (dC, dI) vwCl [(h0, .inr (11, [V0 0, V0 1, V0 2, V0 3, V0 4, V0 5, V0 6, V0 7, V0 8, V0 9, V0 10, V0 11, V0 12, V0 13, V0 14, V0 15, V0 16, V0 17, V0 18, V0 19, V0 20, V0 21, V0 22, .int v0_token, .long v0_name, V0 25, V0 26, V0 27, V0 28, V0 29, V0 30, V0 31, V0 32, V0 33, V0 34, V0 35, V0 36, V0 37, V0 38, V0 39, V0 40, V0 41, V0 42, V0 43, V0 44, V0 45, V0 46, V0 47, V0 48, V0 49, V0 50, V0 51, V0 52, V0 53, V0 54, V0 55, V0 56, V0 57, V0 58, V0 59, V0 60, V0 61, V0 62, V0 63, V0 64, V0 65, V0 66, V0 67, V0 68, V0 69, V0 70]))] H → va_D A [(h0, .inr (11, [V0 0, V0 1, V0 2, V0 3, V0 4, V0 5, V0 6, V0 7, V0 8, V0 9, V0 10, V0 11, V0 12, V0 13, V0 14, V0 15, V0 16, V0 17, V0 18, V0 19, V0 20, V0 21, V0 22, .int v0_token, .long v0_name, V0 25, V0 26, V0 27, V0 28, V0 29, V0 30, V0 31, V0 32, V0 33, V0 34, V0 35, V0 36, V0 37, V0 38, V0 39, V0 40, V0 41, V0 42, V0 43, V0 44, V0 45, V0 46, V0 47, V0 48, V0 49, V0 50, V0 51, V0 52, V0 53, V0 54, V0 55, V0 56, V0 57, V0 58, V0 59, V0 60, V0 61, V0 62, V0 63, V0 64, V0 65, V0 66, V0 67, V0 68, V0 69, V0 70]))] → va_S A s.heap H locs → lv_has ls 3 [(0, .ref h0)] → fX11_isThe_p22 v0_token v0_name  z0 = some o → G 0 0 H locs (F0 m 22 ls [.int z0]) := by
    intro  z0 H locs ls hP hD hS hl hf
    refine (hG _ _ _ _ _).mpr ?_
    unfold fX11_isThe_p22 at hf
    have b1 := bd_b hf
    replace hf := bd_k hf
    have hf1 := Option.some.inj hf
    subst hf1
    have hP9 := hP.sub (ws' := [(h0, .inr (11, [V0 0, V0 1, V0 2, V0 3, V0 4, V0 5, V0 6, V0 7, V0 8, V0 9, V0 10, V0 11, V0 12, V0 13, V0 14, V0 15, V0 16, V0 17, V0 18, V0 19, V0 20, V0 21, V0 22, .int v0_token, .long v0_name, V0 25, V0 26, V0 27, V0 28, V0 29, V0 30, V0 31, V0 32, V0 33, V0 34, V0 35, V0 36, V0 37, V0 38, V0 39, V0 40, V0 41, V0 42, V0 43, V0 44, V0 45, V0 46, V0 47, V0 48, V0 49, V0 50, V0 51, V0 52, V0 53, V0 54, V0 55, V0 56, V0 57, V0 58, V0 59, V0 60, V0 61, V0 62, V0 63, V0 64, V0 65, V0 66, V0 67, V0 68, V0 69, V0 70]))]) [0] rfl
    have hD9 := hD.sub (ws' := [(h0, .inr (11, [V0 0, V0 1, V0 2, V0 3, V0 4, V0 5, V0 6, V0 7, V0 8, V0 9, V0 10, V0 11, V0 12, V0 13, V0 14, V0 15, V0 16, V0 17, V0 18, V0 19, V0 20, V0 21, V0 22, .int v0_token, .long v0_name, V0 25, V0 26, V0 27, V0 28, V0 29, V0 30, V0 31, V0 32, V0 33, V0 34, V0 35, V0 36, V0 37, V0 38, V0 39, V0 40, V0 41, V0 42, V0 43, V0 44, V0 45, V0 46, V0 47, V0 48, V0 49, V0 50, V0 51, V0 52, V0 53, V0 54, V0 55, V0 56, V0 57, V0 58, V0 59, V0 60, V0 61, V0 62, V0 63, V0 64, V0 65, V0 66, V0 67, V0 68, V0 69, V0 70]))]) [0] (by decide) rfl
    exact W.zret (v := z0) (ty := .boolean) hx hb hr (bz_nar b1) (fun t ht hW => ⟨⟨z0, (), rfl, ⟨rfl, rfl⟩, by rw [ht]; exact hP9, va_K.moved hW.alike hK, hD9⟩, hS.F ht⟩) hS.2.2 dX11_isThe_22
  have J21 : ∀ (H : Heap) (locs : List Loc) (ls : Array Slot), va_P (dC, dI) vwCl [(h0, .inr (11, [V0 0, V0 1, V0 2, V0 3, V0 4, V0 5, V0 6, V0 7, V0 8, V0 9, V0 10, V0 11, V0 12, V0 13, V0 14, V0 15, V0 16, V0 17, V0 18, V0 19, V0 20, V0 21, V0 22, .int v0_token, .long v0_name, V0 25, V0 26, V0 27, V0 28, V0 29, V0 30, V0 31, V0 32, V0 33, V0 34, V0 35, V0 36, V0 37, V0 38, V0 39, V0 40, V0 41, V0 42, V0 43, V0 44, V0 45, V0 46, V0 47, V0 48, V0 49, V0 50, V0 51, V0 52, V0 53, V0 54, V0 55, V0 56, V0 57, V0 58, V0 59, V0 60, V0 61, V0 62, V0 63, V0 64, V0 65, V0 66, V0 67, V0 68, V0 69, V0 70]))] H → va_D A [(h0, .inr (11, [V0 0, V0 1, V0 2, V0 3, V0 4, V0 5, V0 6, V0 7, V0 8, V0 9, V0 10, V0 11, V0 12, V0 13, V0 14, V0 15, V0 16, V0 17, V0 18, V0 19, V0 20, V0 21, V0 22, .int v0_token, .long v0_name, V0 25, V0 26, V0 27, V0 28, V0 29, V0 30, V0 31, V0 32, V0 33, V0 34, V0 35, V0 36, V0 37, V0 38, V0 39, V0 40, V0 41, V0 42, V0 43, V0 44, V0 45, V0 46, V0 47, V0 48, V0 49, V0 50, V0 51, V0 52, V0 53, V0 54, V0 55, V0 56, V0 57, V0 58, V0 59, V0 60, V0 61, V0 62, V0 63, V0 64, V0 65, V0 66, V0 67, V0 68, V0 69, V0 70]))] → va_S A s.heap H locs → lv_has ls 3 [(0, .ref h0)] → fX11_isThe_p21 v0_token v0_name   = some o → G 0 0 H locs (F0 m 21 ls []) := by
    intro   H locs ls hP hD hS hl hf
    refine (hG _ _ _ _ _).mpr ?_
    unfold fX11_isThe_p21 at hf
    refine lv_iconst (v := 0) hx hb dX11_isThe_21 (by decide +kernel) ?_
    exact (hG _ _ _ _ _).mp (J22 0 H locs ls (hP.sub [0] rfl) (hD.sub [0] (by decide) rfl) hS (lv_sub hl [0] rfl) hf)
  refine (hG _ _ _ _ _).mpr ?_
  obtain ⟨H, hH⟩ : ∃ H, H = s.heap := ⟨_, rfl⟩
  have hS : va_S A s.heap H [] := by rw [hH]; exact hS
  rw [← hH] at hP ⊢
  generalize ([] : List Loc) = locs at hS ⊢
  unfold fX11_isThe at hf
  refine lv_aload_n hx hb dX11_isThe_0 rfl (lv_at hl 0 rfl) ?_
  refine va_get (D := (dC, dI)) (ci := 11) (v := .int v0_token) (C := RX11) (T := TX11) (N := 71) hx hb hts inlX11 hown hK hP 0 rfl rfl 23 (by decide) w0_ (fun _ h9 => h9) rfl dX11_isThe_1 ?_
  refine lv_iconst (v := 2) hx hb dX11_isThe_4 (by decide +kernel) ?_
  refine lv_icmp_ne (tgt := 21) hx hb dX11_isThe_5 (by decide) (fun cq2 => ?_) (fun cq2 => ?_)
  · replace hf := if_no hf cq2
    exact (hG _ _ _ _ _).mp (J21 H locs ls (hP.sub [0] rfl) (hD.sub [0] (by decide) rfl) hS (lv_sub hl [0] rfl) hf)
  · replace hf := if_at hf cq2
    refine lv_aload_n hx hb dX11_isThe_8 rfl (lv_at hl 0 rfl) ?_
    refine va_get (D := (dC, dI)) (ci := 11) (v := .long v0_name) (C := RX11) (T := TX11) (N := 71) hx hb hts inlX11 hown hK hP 0 rfl rfl 24 (by decide) w1_ (fun _ h9 => h9) rfl dX11_isThe_9 ?_
    refine lv_lload_n hx hb dX11_isThe_12 rfl (lv_at hl 1 rfl) ?_
    refine W.lcmp hx hb dX11_isThe_13 ?_
    refine lv_topi (fun x3 e3 => ?_)
    replace hf := nm_at hf e3
    refine lv_if_ne (tgt := 21) hx hb dX11_isThe_14 (by decide) (fun cq4 => ?_) (fun cq4 => ?_)
    · replace hf := if_no hf cq4
      exact (hG _ _ _ _ _).mp (J21 H locs ls (hP.sub [0] rfl) (hD.sub [0] (by decide) rfl) hS (lv_sub hl [0] rfl) hf)
    · replace hf := if_at hf cq4
      refine lv_iconst (v := 1) hx hb dX11_isThe_17 (by decide +kernel) ?_
      refine lv_goto (tgt := 22) hx hb dX11_isThe_18 (by decide) ?_
      exact (hG _ _ _ _ _).mp (J22 1 H locs ls (hP.sub [0] rfl) (hD.sub [0] (by decide) rfl) hS (lv_sub hl [0] rfl) hf)
abbrev wX11_sees (h0 h1 : Nat) (kc1 : ClassId) (V0 : Nat → Value) (v0_textSize : Int32) (v0_from : Int32) (v0_token : Int32) (c1 : Nat → Int32) : va_W := [(h0, .inr (11, [V0 0, V0 1, V0 2, V0 3, V0 4, V0 5, V0 6, V0 7, V0 8, V0 9, V0 10, V0 11, V0 12, V0 13, V0 14, V0 15, V0 16, V0 17, V0 18, .int v0_textSize, .ref h1, .int v0_from, V0 22, .int v0_token, V0 24, V0 25, V0 26, V0 27, V0 28, V0 29, V0 30, V0 31, V0 32, V0 33, V0 34, V0 35, V0 36, V0 37, V0 38, V0 39, V0 40, V0 41, V0 42, V0 43, V0 44, V0 45, V0 46, V0 47, V0 48, V0 49, V0 50, V0 51, V0 52, V0 53, V0 54, V0 55, V0 56, V0 57, V0 58, V0 59, V0 60, V0 61, V0 62, V0 63, V0 64, V0 65, V0 66, V0 67, V0 68, V0 69, V0 70])), (h1, .inl (kc1, 600, .inl c1))]
set_option maxHeartbeats 4000000 in
set_option maxRecDepth 100000 in
theorem mX11_sees (l : Launch) (dC : Nat → ClassId) (dI : Nat → Nat → Nat) (h0 h1 : Nat) (kc1 : ClassId) (sz : Nat) (base : Nat × Nat × Nat) (a0 : Int32) (v0_textSize : Int32) (v0_from : Int32) (v0_token : Int32) (c1 : Nat → Int32) (V0 : Nat → Value) (o : Int32 × Unit) (hf : fX11_sees a0 v0_textSize v0_from v0_token c1 = some o) : Met l yX11_sees (.code yX11_sees cX11_sees 2 (some .boolean) :: wsL_law) ({ frames := 1, cells := 0, slots := 0, locals := 21 }) (cPre (dC, dI) vwCl [.ref h0, .int a0] sz base (wX11_sees h0 h1 kc1 V0 v0_textSize v0_from v0_token c1) [(kc1, .int)]) (va_Qi (fun r u => r = o.1 ∧ u = o.2) (fun (u : Unit) t => cPost (dC, dI) vwCl (va_A (wX11_sees h0 h1 kc1 V0 v0_textSize v0_from v0_token c1) sz) (wX11_sees h0 h1 kc1 V0 v0_textSize v0_from v0_token c1) [(kc1, .int)] t) (va_A (wX11_sees h0 h1 kc1 V0 v0_textSize v0_from v0_token c1) sz)) 0 0 (va_A (wX11_sees h0 h1 kc1 V0 v0_textSize v0_from v0_token c1) sz) := by
  refine Met.ofW (cc := cX11_sees) (maxL := 2) (ret := (some .boolean)) (by decide) rfl ?_
  intro p e s m args below meth c s₁ B hml hv
  obtain ⟨rfl, hsz, hP, hK, hD0, hE⟩ := hv
  have hx := B.exec
  have hb := B.bytes
  have hr := B.returns
  have hts : ∀ w ∈ wsL_law, _ := fun w h => atoms_spec (ws := .code yX11_sees cX11_sees 2 (some .boolean) :: wsL_law) B.pre w (List.mem_cons_of_mem _ h)
  have hown : s.vm.findClass RX11 = some m.cls := findClass_of_methodNamed B.named
  have hlocks := B.notSynchronized
  have w0_ := hts _ q802
  have w1_ := hts _ q801
  subst hsz
  have hD := hD0.self (sz := s.heap.size)
  generalize hAe : va_A (wX11_sees h0 h1 kc1 V0 v0_textSize v0_from v0_token c1) s.heap.size = A at hD ⊢
  have hA : ∀ q : Nat, s.heap.size ≤ q → A q := fun q h => by rw [← hAe]; exact Or.inr h
  have hAB : ∀ q : Nat, A q → base.1 ≤ q := fun q h => by rw [← hAe] at h; exact h.elim (fun ⟨k, e, hk⟩ => hD0.2 k _ hk) (fun hk => Nat.le_trans hE.1 hk)
  have hS : va_S A s.heap s.heap [] := va_S.rf
  have hl := lv_entry ([.ref h0, .int a0]) (n := 2) (Nat.le_of_ble_eq_true rfl)
  rw [lg_entry_eq]
  generalize (lg_sl ([.ref h0, .int a0]) ++ List.replicate (2 - (lg_sl ([.ref h0, .int a0])).length) Slot.unset).toArray = ls at hl ⊢
  have hl : lv_has ls 2 [(0, .ref h0), (1, .int a0)] := hl
  have hP : va_P (dC, dI) vwCl (wX11_sees h0 h1 kc1 V0 v0_textSize v0_from v0_token c1) s.heap := hP
  refine gl_intro (fun G hG => ?_)
  have J25 : ∀ (z0 : Int32) (H : Heap) (locs : List Loc) (ls : Array Slot), va_P (dC, dI) vwCl (wX11_sees h0 h1 kc1 V0 v0_textSize v0_from v0_token c1) H → va_D A (wX11_sees h0 h1 kc1 V0 v0_textSize v0_from v0_token c1) → va_S A s.heap H locs → lv_has ls 2 [(0, .ref h0)] → fX11_sees_p25 v0_textSize v0_from v0_token c1  z0 = some o → G 0 0 H locs (F0 m 25 ls [.int z0]) := by
    intro  z0 H locs ls hP hD hS hl hf
    refine (hG _ _ _ _ _).mpr ?_
    unfold fX11_sees_p25 at hf
    have b1 := bd_b hf
    replace hf := bd_k hf
    have hf1 := Option.some.inj hf
    subst hf1
    have hP9 := hP.sub (ws' := (wX11_sees h0 h1 kc1 V0 v0_textSize v0_from v0_token c1)) [0, 1] rfl
    have hD9 := hD.sub (ws' := (wX11_sees h0 h1 kc1 V0 v0_textSize v0_from v0_token c1)) [0, 1] (by decide) rfl
    exact W.zret (v := z0) (ty := .boolean) hx hb hr (bz_nar b1) (fun t ht hW => ⟨⟨z0, (), rfl, ⟨rfl, rfl⟩, by rw [ht]; exact hP9, va_K.moved hW.alike hK, hD9⟩, hS.F ht⟩) hS.2.2 dX11_sees_25
  have J24 : ∀ (H : Heap) (locs : List Loc) (ls : Array Slot), va_P (dC, dI) vwCl (wX11_sees h0 h1 kc1 V0 v0_textSize v0_from v0_token c1) H → va_D A (wX11_sees h0 h1 kc1 V0 v0_textSize v0_from v0_token c1) → va_S A s.heap H locs → lv_has ls 2 [(0, .ref h0)] → fX11_sees_p24 v0_textSize v0_from v0_token c1   = some o → G 0 0 H locs (F0 m 24 ls []) := by
    intro   H locs ls hP hD hS hl hf
    refine (hG _ _ _ _ _).mpr ?_
    unfold fX11_sees_p24 at hf
    refine lv_iconst (v := 0) hx hb dX11_sees_24 (by decide +kernel) ?_
    exact (hG _ _ _ _ _).mp (J25 0 H locs ls (hP.sub [0, 1] rfl) (hD.sub [0, 1] (by decide) rfl) hS (lv_sub hl [0] rfl) hf)
  refine (hG _ _ _ _ _).mpr ?_
  obtain ⟨H, hH⟩ : ∃ H, H = s.heap := ⟨_, rfl⟩
  have hS : va_S A s.heap H [] := by rw [hH]; exact hS
  rw [← hH] at hP ⊢
  generalize ([] : List Loc) = locs at hS ⊢
  unfold fX11_sees at hf
  refine lv_aload_n hx hb dX11_sees_0 rfl (lv_at hl 0 rfl) ?_
  refine va_get (D := (dC, dI)) (ci := 11) (v := .int v0_token) (C := RX11) (T := TX11) (N := 71) hx hb hts inlX11 hown hK hP 0 rfl rfl 23 (by decide) w0_ (fun _ h9 => h9) rfl dX11_sees_1 ?_
  refine lv_iconst (v := 3) hx hb dX11_sees_4 (by decide +kernel) ?_
  refine lv_icmp_ne (tgt := 24) hx hb dX11_sees_5 (by decide) (fun cq2 => ?_) (fun cq2 => ?_)
  · replace hf := if_no hf cq2
    exact (hG _ _ _ _ _).mp (J24 H locs ls (hP.sub [0, 1] rfl) (hD.sub [0, 1] (by decide) rfl) hS (lv_sub hl [0] rfl) hf)
  · replace hf := if_at hf cq2
    refine lv_aload_n hx hb dX11_sees_8 rfl (lv_at hl 0 rfl) ?_
    refine lv_aload_n hx hb dX11_sees_9 rfl (lv_at hl 0 rfl) ?_
    refine va_get (D := (dC, dI)) (ci := 11) (v := .int v0_from) (C := RX11) (T := TX11) (N := 71) hx hb hts inlX11 hown hK hP 0 rfl rfl 21 (by decide) w1_ (fun _ h9 => h9) rfl dX11_sees_10 ?_
    obtain ⟨o3, e3, hf⟩ := ob_some hf
    refine kVi (As := [.int v0_from]) (rest := []) ⟨hx, hb, hml, hown, hts⟩ (mX11_byteAt l dC dI h0 h1 kc1 H.size base v0_from v0_textSize c1 (fun k => match k with | 21 => .int v0_from | 23 => .int v0_token | k => V0 k) o3 e3) (cwV 1 hts (gTV q804 q805 q806 q5 q807) rfl rfl rfl (by decide +kernel) ⟨Nat.le_of_ble_eq_true rfl, Nat.le_of_ble_eq_true rfl⟩) hK hP hD hS hA hE hAB [0, 1] [] [0] (wr := []) rfl rfl (by decide) (by decide) (by decide) rfl (ci := 11) (q0 := 0) rfl rfl rfl rfl hl.1 rfl (Nat.le_of_ble_eq_true rfl) dX11_sees_13 ⟨Nat.zero_le _, Nat.zero_le _⟩ (fun r3 u3 H locs hw3 hP hD hS => ?_)
    obtain ⟨hw31, hw32⟩ := hw3
    subst hw31 hw32
    have hP : va_P (dC, dI) vwCl (wX11_sees h0 h1 kc1 V0 v0_textSize v0_from v0_token c1) H := hP.sub [0, 1] rfl
    have hD : va_D A (wX11_sees h0 h1 kc1 V0 v0_textSize v0_from v0_token c1) := hD.sub [0, 1] (by decide) rfl
    refine lv_iload_n hx hb dX11_sees_16 rfl (lv_at hl 1 rfl) ?_
    refine lv_icmp_ne (tgt := 24) hx hb dX11_sees_17 (by decide) (fun cq4 => ?_) (fun cq4 => ?_)
    · replace hf := if_no hf cq4
      exact (hG _ _ _ _ _).mp (J24 H locs ls (hP.sub [0, 1] rfl) (hD.sub [0, 1] (by decide) rfl) hS (lv_sub hl [0] rfl) hf)
    · replace hf := if_at hf cq4
      refine lv_iconst (v := 1) hx hb dX11_sees_20 (by decide +kernel) ?_
      refine lv_goto (tgt := 25) hx hb dX11_sees_21 (by decide) ?_
      exact (hG _ _ _ _ _).mp (J25 1 H locs ls (hP.sub [0, 1] rfl) (hD.sub [0, 1] (by decide) rfl) hS (lv_sub hl [0] rfl) hf)
abbrev wX11_openBlock (h0 h1 h2 h3 h4 h5 : Nat) (kc1 kc2 kc3 kc4 kc5 : ClassId) (V0 : Nat → Value) (v0_textSize : Int32) (v0_from : Int32) (v0_to : Int32) (v0_token : Int32) (v0_name : Int64) (v0_wrong : Int32) (v0_wrongAt : Int32) (v0_blocks : Int32) (v0_open : Int32) (c1 : Nat → Int32) (c2 : Nat → Int32) (c3 : Nat → Int32) (c4 : Nat → Int32) (c5 : Nat → Int32) : va_W := [(h0, .inr (11, [V0 0, V0 1, V0 2, V0 3, V0 4, V0 5, V0 6, V0 7, V0 8, V0 9, V0 10, V0 11, V0 12, V0 13, V0 14, V0 15, V0 16, V0 17, V0 18, .int v0_textSize, .ref h1, .int v0_from, .int v0_to, .int v0_token, .long v0_name, .int v0_wrong, .int v0_wrongAt, V0 27, V0 28, V0 29, V0 30, V0 31, V0 32, V0 33, V0 34, V0 35, V0 36, V0 37, V0 38, V0 39, V0 40, V0 41, V0 42, V0 43, V0 44, V0 45, V0 46, V0 47, V0 48, V0 49, .int v0_blocks, .ref h2, .ref h3, .ref h4, .int v0_open, .ref h5, V0 56, V0 57, V0 58, V0 59, V0 60, V0 61, V0 62, V0 63, V0 64, V0 65, V0 66, V0 67, V0 68, V0 69, V0 70])), (h1, .inl (kc1, 600, .inl c1)), (h2, .inl (kc2, 90, .inl c2)), (h3, .inl (kc3, 90, .inl c3)), (h4, .inl (kc4, 90, .inl c4)), (h5, .inl (kc5, 12, .inl c5))]
set_option maxHeartbeats 4000000 in
set_option maxRecDepth 100000 in
theorem mX11_openBlock (l : Launch) (dC : Nat → ClassId) (dI : Nat → Nat → Nat) (h0 h1 h2 h3 h4 h5 : Nat) (kc1 kc2 kc3 kc4 kc5 : ClassId) (sz : Nat) (base : Nat × Nat × Nat) (a0 : Int32) (a1 : Int32) (v0_textSize : Int32) (v0_from : Int32) (v0_to : Int32) (v0_token : Int32) (v0_name : Int64) (v0_wrong : Int32) (v0_wrongAt : Int32) (v0_blocks : Int32) (v0_open : Int32) (c1 : Nat → Int32) (c2 : Nat → Int32) (c3 : Nat → Int32) (c4 : Nat → Int32) (c5 : Nat → Int32) (V0 : Nat → Value) (o : Int32 × Int32 × Int32 × Int32 × Int64 × Int32 × Int32 × Int32 × Int32 × (Nat → Int32) × (Nat → Int32) × (Nat → Int32) × (Nat → Int32)) (hf : fX11_openBlock a0 a1 v0_textSize v0_from v0_to v0_token v0_name v0_wrong v0_wrongAt v0_blocks v0_open c1 c2 c3 c4 c5 = some o) : Met l yX11_openBlock (.code yX11_openBlock cX11_openBlock 3 (some .boolean) :: wsL_law) ({ frames := 3, cells := 0, slots := 0, locals := 63 }) (cPre (dC, dI) vwCl [.ref h0, .int a0, .int a1] sz base (wX11_openBlock h0 h1 h2 h3 h4 h5 kc1 kc2 kc3 kc4 kc5 V0 v0_textSize v0_from v0_to v0_token v0_name v0_wrong v0_wrongAt v0_blocks v0_open c1 c2 c3 c4 c5) [(kc1, .int), (kc2, .int), (kc3, .int), (kc4, .int), (kc5, .int)]) (va_Qi (fun r u => r = o.1 ∧ u = o.2) (fun (u : Int32 × Int32 × Int32 × Int64 × Int32 × Int32 × Int32 × Int32 × (Nat → Int32) × (Nat → Int32) × (Nat → Int32) × (Nat → Int32)) t => cPost (dC, dI) vwCl (va_A (wX11_openBlock h0 h1 h2 h3 h4 h5 kc1 kc2 kc3 kc4 kc5 V0 v0_textSize v0_from v0_to v0_token v0_name v0_wrong v0_wrongAt v0_blocks v0_open c1 c2 c3 c4 c5) sz) (wX11_openBlock h0 h1 h2 h3 h4 h5 kc1 kc2 kc3 kc4 kc5 V0 v0_textSize u.1 u.2.1 u.2.2.1 u.2.2.2.1 u.2.2.2.2.1 u.2.2.2.2.2.1 u.2.2.2.2.2.2.1 u.2.2.2.2.2.2.2.1 c1 u.2.2.2.2.2.2.2.2.1 u.2.2.2.2.2.2.2.2.2.1 u.2.2.2.2.2.2.2.2.2.2.1 u.2.2.2.2.2.2.2.2.2.2.2) [(kc1, .int), (kc2, .int), (kc3, .int), (kc4, .int), (kc5, .int)] t) (va_A (wX11_openBlock h0 h1 h2 h3 h4 h5 kc1 kc2 kc3 kc4 kc5 V0 v0_textSize v0_from v0_to v0_token v0_name v0_wrong v0_wrongAt v0_blocks v0_open c1 c2 c3 c4 c5) sz)) 0 0 (va_A (wX11_openBlock h0 h1 h2 h3 h4 h5 kc1 kc2 kc3 kc4 kc5 V0 v0_textSize v0_from v0_to v0_token v0_name v0_wrong v0_wrongAt v0_blocks v0_open c1 c2 c3 c4 c5) sz) := by
  refine Met.ofW (cc := cX11_openBlock) (maxL := 3) (ret := (some .boolean)) (by decide) rfl ?_
  intro p e s m args below meth c s₁ B hml hv
  obtain ⟨rfl, hsz, hP, hK, hD0, hE⟩ := hv
  have hx := B.exec
  have hb := B.bytes
  have hr := B.returns
  have hts : ∀ w ∈ wsL_law, _ := fun w h => atoms_spec (ws := .code yX11_openBlock cX11_openBlock 3 (some .boolean) :: wsL_law) B.pre w (List.mem_cons_of_mem _ h)
  have hown : s.vm.findClass RX11 = some m.cls := findClass_of_methodNamed B.named
  have hlocks := B.notSynchronized
  have w0_ := hts _ q835
  have w1_ := hts _ q114
  have w2_ := hts _ q834
  have w3_ := hts _ q115
  have w4_ := hts _ q116
  have w5_ := hts _ q117
  have w6_ := hts _ q801
  subst hsz
  have hD := hD0.self (sz := s.heap.size)
  generalize hAe : va_A (wX11_openBlock h0 h1 h2 h3 h4 h5 kc1 kc2 kc3 kc4 kc5 V0 v0_textSize v0_from v0_to v0_token v0_name v0_wrong v0_wrongAt v0_blocks v0_open c1 c2 c3 c4 c5) s.heap.size = A at hD ⊢
  have hA : ∀ q : Nat, s.heap.size ≤ q → A q := fun q h => by rw [← hAe]; exact Or.inr h
  have hAB : ∀ q : Nat, A q → base.1 ≤ q := fun q h => by rw [← hAe] at h; exact h.elim (fun ⟨k, e, hk⟩ => hD0.2 k _ hk) (fun hk => Nat.le_trans hE.1 hk)
  have hS : va_S A s.heap s.heap [] := va_S.rf
  have hl := lv_entry ([.ref h0, .int a0, .int a1]) (n := 3) (Nat.le_of_ble_eq_true rfl)
  rw [lg_entry_eq]
  generalize (lg_sl ([.ref h0, .int a0, .int a1]) ++ List.replicate (3 - (lg_sl ([.ref h0, .int a0, .int a1])).length) Slot.unset).toArray = ls at hl ⊢
  have hl : lv_has ls 3 [(0, .ref h0), (1, .int a0), (2, .int a1)] := hl
  have hP : va_P (dC, dI) vwCl (wX11_openBlock h0 h1 h2 h3 h4 h5 kc1 kc2 kc3 kc4 kc5 V0 v0_textSize v0_from v0_to v0_token v0_name v0_wrong v0_wrongAt v0_blocks v0_open c1 c2 c3 c4 c5) s.heap := hP
  obtain ⟨H, hH⟩ : ∃ H, H = s.heap := ⟨_, rfl⟩
  have hS : va_S A s.heap H [] := by rw [hH]; exact hS
  rw [← hH] at hP ⊢
  generalize ([] : List Loc) = locs at hS ⊢
  unfold fX11_openBlock at hf
  refine lv_aload_n hx hb dX11_openBlock_0 rfl (lv_at hl 0 rfl) ?_
  refine lv_aload_n hx hb dX11_openBlock_1 rfl (lv_at hl 0 rfl) ?_
  refine lv_bipush (v := 123) hx hb dX11_openBlock_2 (by decide +kernel) ?_
  obtain ⟨o1, e1, hf⟩ := ob_some hf
  refine kVi (As := [.int 123]) (rest := [.ref h0]) ⟨hx, hb, hml, hown, hts⟩ (mX11_sees l dC dI h0 h1 kc1 H.size base 123 v0_textSize v0_from v0_token c1 (fun k => match k with | 22 => .int v0_to | 24 => .long v0_name | 25 => .int v0_wrong | 26 => .int v0_wrongAt | 50 => .int v0_blocks | 51 => .ref h2 | 52 => .ref h3 | 53 => .ref h4 | 54 => .int v0_open | 55 => .ref h5 | k => V0 k) o1 e1) (cwV 1 hts (gTV q852 q853 q854 q5 q855) rfl rfl rfl (by decide +kernel) ⟨Nat.le_of_ble_eq_true rfl, Nat.le_of_ble_eq_true rfl⟩) hK hP hD hS hA hE hAB [0, 1] [2, 3, 4, 5] [0] (wr := [(h2, .inl (kc2, 90, .inl c2)), (h3, .inl (kc3, 90, .inl c3)), (h4, .inl (kc4, 90, .inl c4)), (h5, .inl (kc5, 12, .inl c5))]) rfl rfl (by decide) (by decide) (by decide) rfl (ci := 11) (q0 := 0) rfl rfl rfl rfl hl.1 rfl (Nat.le_of_ble_eq_true rfl) dX11_openBlock_4 ⟨Nat.zero_le _, Nat.zero_le _⟩ (fun r1 u1 H locs hw1 hP hD hS => ?_)
  obtain ⟨hw11, hw12⟩ := hw1
  subst hw11 hw12
  have hP : va_P (dC, dI) vwCl (wX11_openBlock h0 h1 h2 h3 h4 h5 kc1 kc2 kc3 kc4 kc5 V0 v0_textSize v0_from v0_to v0_token v0_name v0_wrong v0_wrongAt v0_blocks v0_open c1 c2 c3 c4 c5) H := hP.sub [4, 5, 0, 1, 2, 3] rfl
  have hD : va_D A (wX11_openBlock h0 h1 h2 h3 h4 h5 kc1 kc2 kc3 kc4 kc5 V0 v0_textSize v0_from v0_to v0_token v0_name v0_wrong v0_wrongAt v0_blocks v0_open c1 c2 c3 c4 c5) := hD.sub [4, 5, 0, 1, 2, 3] (by decide) rfl
  obtain ⟨o2, e2, hf⟩ := ob_some hf
  refine kVi (As := [.int o1.1]) (rest := []) ⟨hx, hb, hml, hown, hts⟩ (mX11_may l dC dI h0 H.size base o1.1 v0_from v0_token v0_wrong v0_wrongAt (fun k => match k with | 19 => .int v0_textSize | 20 => .ref h1 | 22 => .int v0_to | 24 => .long v0_name | 50 => .int v0_blocks | 51 => .ref h2 | 52 => .ref h3 | 53 => .ref h4 | 54 => .int v0_open | 55 => .ref h5 | k => V0 k) o2 e2) (cwV 1 hts (gTV q836 q837 q838 q5 q839) rfl rfl rfl (by decide +kernel) ⟨Nat.le_of_ble_eq_true rfl, Nat.le_of_ble_eq_true rfl⟩) hK hP hD hS hA hE hAB [0] [1, 2, 3, 4, 5] [] (wr := [(h1, .inl (kc1, 600, .inl c1)), (h2, .inl (kc2, 90, .inl c2)), (h3, .inl (kc3, 90, .inl c3)), (h4, .inl (kc4, 90, .inl c4)), (h5, .inl (kc5, 12, .inl c5))]) rfl rfl (by decide) (by decide) (by decide) rfl (ci := 11) (q0 := 0) rfl rfl rfl rfl hl.1 rfl (Nat.le_of_ble_eq_true rfl) dX11_openBlock_7 ⟨Nat.zero_le _, Nat.zero_le _⟩ (fun r2 u2 H locs hw2 hP hD hS => ?_)
  obtain ⟨hw21, hw22⟩ := hw2
  subst hw21 hw22
  have hP : va_P (dC, dI) vwCl (wX11_openBlock h0 h1 h2 h3 h4 h5 kc1 kc2 kc3 kc4 kc5 V0 v0_textSize v0_from v0_to v0_token v0_name o2.2.1 o2.2.2 v0_blocks v0_open c1 c2 c3 c4 c5) H := hP.sub [5, 0, 1, 2, 3, 4] rfl
  have hD : va_D A (wX11_openBlock h0 h1 h2 h3 h4 h5 kc1 kc2 kc3 kc4 kc5 V0 v0_textSize v0_from v0_to v0_token v0_name o2.2.1 o2.2.2 v0_blocks v0_open c1 c2 c3 c4 c5) := hD.sub [5, 0, 1, 2, 3, 4] (by decide) rfl
  refine lv_if_ne (tgt := 15) hx hb dX11_openBlock_10 (by decide) (fun cq3 => ?_) (fun cq3 => ?_)
  · replace hf := if_no hf cq3
    refine lv_aload_n hx hb dX11_openBlock_15 rfl (lv_at hl 0 rfl) ?_
    refine va_get (D := (dC, dI)) (ci := 11) (v := .int v0_open) (C := RX11) (T := TX11) (N := 71) hx hb hts inlX11 hown hK hP 0 rfl rfl 54 (by decide) w0_ (fun _ h9 => h9) rfl dX11_openBlock_16 ?_
    refine lv_bipush (v := 10) hx hb dX11_openBlock_19 (by decide +kernel) ?_
    refine lv_icmp_ne (tgt := 34) hx hb dX11_openBlock_21 (by decide) (fun cq4 => ?_) (fun cq4 => ?_)
    · replace hf := if_no hf cq4
      refine lv_aload_n hx hb dX11_openBlock_34 rfl (lv_at hl 0 rfl) ?_
      refine va_get (D := (dC, dI)) (ci := 11) (v := .ref h2) (C := RX11) (T := TX11) (N := 71) hx hb hts inlX11 hown hK hP 0 rfl rfl 51 (by decide) w1_ (fun _ h9 => h9) rfl dX11_openBlock_35 ?_
      refine lv_aload_n hx hb dX11_openBlock_38 rfl (lv_at hl 0 rfl) ?_
      refine va_get (D := (dC, dI)) (ci := 11) (v := .int v0_blocks) (C := RX11) (T := TX11) (N := 71) hx hb hts inlX11 hown hK hP 0 rfl rfl 50 (by decide) w2_ (fun _ h9 => h9) rfl dX11_openBlock_39 ?_
      refine lv_iload_n hx hb dX11_openBlock_42 rfl (lv_at hl 1 rfl) ?_
      have b5 := bd_in hf
      replace hf := bd_k hf
      obtain ⟨c5x, e5⟩ : ∃ y, y = upd c2 v0_blocks.toNatClampNeg a0 := ⟨_, rfl⟩
      replace hf := nm_at hf e5
      refine va_iast hx hb hK hP hD hS 2 1 rfl rfl b5 dX11_openBlock_43 (fun H locs hP hD hS => ?_)
      have hP : va_P (dC, dI) vwCl (wX11_openBlock h0 h1 h2 h3 h4 h5 kc1 kc2 kc3 kc4 kc5 V0 v0_textSize v0_from v0_to v0_token v0_name o2.2.1 o2.2.2 v0_blocks v0_open c1 c5x c3 c4 c5) H := by rw [e5]; exact hP
      have hD : va_D A (wX11_openBlock h0 h1 h2 h3 h4 h5 kc1 kc2 kc3 kc4 kc5 V0 v0_textSize v0_from v0_to v0_token v0_name o2.2.1 o2.2.2 v0_blocks v0_open c1 c5x c3 c4 c5) := by rw [e5]; exact hD
      refine lv_aload_n hx hb dX11_openBlock_44 rfl (lv_at hl 0 rfl) ?_
      refine va_get (D := (dC, dI)) (ci := 11) (v := .ref h3) (C := RX11) (T := TX11) (N := 71) hx hb hts inlX11 hown hK hP 0 rfl rfl 52 (by decide) w3_ (fun _ h9 => h9) rfl dX11_openBlock_45 ?_
      refine lv_aload_n hx hb dX11_openBlock_48 rfl (lv_at hl 0 rfl) ?_
      refine va_get (D := (dC, dI)) (ci := 11) (v := .int v0_blocks) (C := RX11) (T := TX11) (N := 71) hx hb hts inlX11 hown hK hP 0 rfl rfl 50 (by decide) w2_ (fun _ h9 => h9) rfl dX11_openBlock_49 ?_
      refine lv_iload_n hx hb dX11_openBlock_52 rfl (lv_at hl 2 rfl) ?_
      have b6 := bd_in hf
      replace hf := bd_k hf
      obtain ⟨c6x, e6⟩ : ∃ y, y = upd c3 v0_blocks.toNatClampNeg a1 := ⟨_, rfl⟩
      replace hf := nm_at hf e6
      refine va_iast hx hb hK hP hD hS 3 2 rfl rfl b6 dX11_openBlock_53 (fun H locs hP hD hS => ?_)
      have hP : va_P (dC, dI) vwCl (wX11_openBlock h0 h1 h2 h3 h4 h5 kc1 kc2 kc3 kc4 kc5 V0 v0_textSize v0_from v0_to v0_token v0_name o2.2.1 o2.2.2 v0_blocks v0_open c1 c5x c6x c4 c5) H := by rw [e6]; exact hP
      have hD : va_D A (wX11_openBlock h0 h1 h2 h3 h4 h5 kc1 kc2 kc3 kc4 kc5 V0 v0_textSize v0_from v0_to v0_token v0_name o2.2.1 o2.2.2 v0_blocks v0_open c1 c5x c6x c4 c5) := by rw [e6]; exact hD
      refine lv_aload_n hx hb dX11_openBlock_54 rfl (lv_at hl 0 rfl) ?_
      refine va_get (D := (dC, dI)) (ci := 11) (v := .ref h4) (C := RX11) (T := TX11) (N := 71) hx hb hts inlX11 hown hK hP 0 rfl rfl 53 (by decide) w4_ (fun _ h9 => h9) rfl dX11_openBlock_55 ?_
      refine lv_aload_n hx hb dX11_openBlock_58 rfl (lv_at hl 0 rfl) ?_
      refine va_get (D := (dC, dI)) (ci := 11) (v := .int v0_blocks) (C := RX11) (T := TX11) (N := 71) hx hb hts inlX11 hown hK hP 0 rfl rfl 50 (by decide) w2_ (fun _ h9 => h9) rfl dX11_openBlock_59 ?_
      refine lv_iconst (v := (-1)) hx hb dX11_openBlock_62 (by decide +kernel) ?_
      have b7 := bd_in hf
      replace hf := bd_k hf
      obtain ⟨c7x, e7⟩ : ∃ y, y = upd c4 v0_blocks.toNatClampNeg (-1) := ⟨_, rfl⟩
      replace hf := nm_at hf e7
      refine va_iast hx hb hK hP hD hS 4 3 rfl rfl b7 dX11_openBlock_63 (fun H locs hP hD hS => ?_)
      have hP : va_P (dC, dI) vwCl (wX11_openBlock h0 h1 h2 h3 h4 h5 kc1 kc2 kc3 kc4 kc5 V0 v0_textSize v0_from v0_to v0_token v0_name o2.2.1 o2.2.2 v0_blocks v0_open c1 c5x c6x c7x c5) H := by rw [e7]; exact hP
      have hD : va_D A (wX11_openBlock h0 h1 h2 h3 h4 h5 kc1 kc2 kc3 kc4 kc5 V0 v0_textSize v0_from v0_to v0_token v0_name o2.2.1 o2.2.2 v0_blocks v0_open c1 c5x c6x c7x c5) := by rw [e7]; exact hD
      refine lv_aload_n hx hb dX11_openBlock_64 rfl (lv_at hl 0 rfl) ?_
      refine va_get (D := (dC, dI)) (ci := 11) (v := .ref h5) (C := RX11) (T := TX11) (N := 71) hx hb hts inlX11 hown hK hP 0 rfl rfl 55 (by decide) w5_ (fun _ h9 => h9) rfl dX11_openBlock_65 ?_
      refine lv_aload_n hx hb dX11_openBlock_68 rfl (lv_at hl 0 rfl) ?_
      refine va_get (D := (dC, dI)) (ci := 11) (v := .int v0_open) (C := RX11) (T := TX11) (N := 71) hx hb hts inlX11 hown hK hP 0 rfl rfl 54 (by decide) w0_ (fun _ h9 => h9) rfl dX11_openBlock_69 ?_
      refine lv_aload_n hx hb dX11_openBlock_72 rfl (lv_at hl 0 rfl) ?_
      refine va_get (D := (dC, dI)) (ci := 11) (v := .int v0_blocks) (C := RX11) (T := TX11) (N := 71) hx hb hts inlX11 hown hK hP 0 rfl rfl 50 (by decide) w2_ (fun _ h9 => h9) rfl dX11_openBlock_73 ?_
      have b8 := bd_in hf
      replace hf := bd_k hf
      obtain ⟨c8x, e8⟩ : ∃ y, y = upd c5 v0_open.toNatClampNeg v0_blocks := ⟨_, rfl⟩
      replace hf := nm_at hf e8
      refine va_iast hx hb hK hP hD hS 5 4 rfl rfl b8 dX11_openBlock_76 (fun H locs hP hD hS => ?_)
      have hP : va_P (dC, dI) vwCl (wX11_openBlock h0 h1 h2 h3 h4 h5 kc1 kc2 kc3 kc4 kc5 V0 v0_textSize v0_from v0_to v0_token v0_name o2.2.1 o2.2.2 v0_blocks v0_open c1 c5x c6x c7x c8x) H := by rw [e8]; exact hP
      have hD : va_D A (wX11_openBlock h0 h1 h2 h3 h4 h5 kc1 kc2 kc3 kc4 kc5 V0 v0_textSize v0_from v0_to v0_token v0_name o2.2.1 o2.2.2 v0_blocks v0_open c1 c5x c6x c7x c8x) := by rw [e8]; exact hD
      refine lv_aload_n hx hb dX11_openBlock_77 rfl (lv_at hl 0 rfl) ?_
      refine lv_dup hx hb dX11_openBlock_78 rfl ?_
      refine va_get (D := (dC, dI)) (ci := 11) (v := .int v0_open) (C := RX11) (T := TX11) (N := 71) hx hb hts inlX11 hown hK hP 0 rfl rfl 54 (by decide) w0_ (fun _ h9 => h9) rfl dX11_openBlock_79 ?_
      refine lv_iconst (v := 1) hx hb dX11_openBlock_82 (by decide +kernel) ?_
      refine lv_iadd hx hb dX11_openBlock_83 ?_
      refine lv_topi (fun x9 e9 => ?_)
      replace hf := nm_at hf e9
      refine va_put (D := (dC, dI)) (ci := 11) (v := .int x9) (ty := .int) (C := RX11) (T := TX11) (N := 71) hx hb hts inlX11 tyX11 tyX11_ok nmX11 hown hK hP hD hS 0 rfl rfl 54 (by decide) w0_ (fun _ h9 => h9) rfl (by decide +kernel) rfl rfl (Nat.le_of_ble_eq_true rfl) dX11_openBlock_84 (fun H locs hP hD hS => ?_)
      have hP : va_P (dC, dI) vwCl (wX11_openBlock h0 h1 h2 h3 h4 h5 kc1 kc2 kc3 kc4 kc5 V0 v0_textSize v0_from v0_to v0_token v0_name o2.2.1 o2.2.2 v0_blocks x9 c1 c5x c6x c7x c8x) H := hP
      have hD : va_D A (wX11_openBlock h0 h1 h2 h3 h4 h5 kc1 kc2 kc3 kc4 kc5 V0 v0_textSize v0_from v0_to v0_token v0_name o2.2.1 o2.2.2 v0_blocks x9 c1 c5x c6x c7x c8x) := hD
      refine lv_aload_n hx hb dX11_openBlock_87 rfl (lv_at hl 0 rfl) ?_
      refine lv_dup hx hb dX11_openBlock_88 rfl ?_
      refine va_get (D := (dC, dI)) (ci := 11) (v := .int v0_blocks) (C := RX11) (T := TX11) (N := 71) hx hb hts inlX11 hown hK hP 0 rfl rfl 50 (by decide) w2_ (fun _ h9 => h9) rfl dX11_openBlock_89 ?_
      refine lv_iconst (v := 1) hx hb dX11_openBlock_92 (by decide +kernel) ?_
      refine lv_iadd hx hb dX11_openBlock_93 ?_
      refine lv_topi (fun x10 e10 => ?_)
      replace hf := nm_at hf e10
      refine va_put (D := (dC, dI)) (ci := 11) (v := .int x10) (ty := .int) (C := RX11) (T := TX11) (N := 71) hx hb hts inlX11 tyX11 tyX11_ok nmX11 hown hK hP hD hS 0 rfl rfl 50 (by decide) w2_ (fun _ h9 => h9) rfl (by decide +kernel) rfl rfl (Nat.le_of_ble_eq_true rfl) dX11_openBlock_94 (fun H locs hP hD hS => ?_)
      have hP : va_P (dC, dI) vwCl (wX11_openBlock h0 h1 h2 h3 h4 h5 kc1 kc2 kc3 kc4 kc5 V0 v0_textSize v0_from v0_to v0_token v0_name o2.2.1 o2.2.2 x10 x9 c1 c5x c6x c7x c8x) H := hP
      have hD : va_D A (wX11_openBlock h0 h1 h2 h3 h4 h5 kc1 kc2 kc3 kc4 kc5 V0 v0_textSize v0_from v0_to v0_token v0_name o2.2.1 o2.2.2 x10 x9 c1 c5x c6x c7x c8x) := hD
      refine lv_aload_n hx hb dX11_openBlock_97 rfl (lv_at hl 0 rfl) ?_
      obtain ⟨o11, e11, hf⟩ := ob_some hf
      refine kVv (As := []) (rest := []) ⟨hx, hb, hml, hown, hts⟩ (mX11_next l dC dI h0 h1 kc1 H.size base v0_textSize v0_from v0_to v0_token v0_name c1 (fun k => match k with | 25 => .int o2.2.1 | 26 => .int o2.2.2 | 50 => .int x10 | 51 => .ref h2 | 52 => .ref h3 | 53 => .ref h4 | 54 => .int x9 | 55 => .ref h5 | k => V0 k) o11 e11) (cwV 0 hts (gTV q797 q798 q799 q5 q800) rfl rfl rfl (by decide +kernel) ⟨Nat.le_of_ble_eq_true rfl, Nat.le_of_ble_eq_true rfl⟩) hK hP hD hS hA hE hAB [0, 1] [2, 3, 4, 5] [0] (wr := [(h2, .inl (kc2, 90, .inl c5x)), (h3, .inl (kc3, 90, .inl c6x)), (h4, .inl (kc4, 90, .inl c7x)), (h5, .inl (kc5, 12, .inl c8x))]) rfl rfl (by decide) (by decide) (by decide) rfl (ci := 11) (q0 := 0) rfl rfl rfl rfl hl.1 rfl (Nat.le_of_ble_eq_true rfl) dX11_openBlock_98 ⟨Nat.zero_le _, Nat.zero_le _⟩ (fun u11 H locs hw11 hP hD hS => ?_)
      have hw111 : o11 = u11 := Eq.symm hw11
      subst hw111
      have hP : va_P (dC, dI) vwCl (wX11_openBlock h0 h1 h2 h3 h4 h5 kc1 kc2 kc3 kc4 kc5 V0 v0_textSize o11.1 o11.2.1 o11.2.2.1 o11.2.2.2 o2.2.1 o2.2.2 x10 x9 c1 c5x c6x c7x c8x) H := hP.sub [4, 5, 0, 1, 2, 3] rfl
      have hD : va_D A (wX11_openBlock h0 h1 h2 h3 h4 h5 kc1 kc2 kc3 kc4 kc5 V0 v0_textSize o11.1 o11.2.1 o11.2.2.1 o11.2.2.2 o2.2.1 o2.2.2 x10 x9 c1 c5x c6x c7x c8x) := hD.sub [4, 5, 0, 1, 2, 3] (by decide) rfl
      refine lv_iconst (v := 1) hx hb dX11_openBlock_101 (by decide +kernel) ?_
      have hf1 := Option.some.inj hf
      subst hf1
      have hP9 := hP.sub (ws' := (wX11_openBlock h0 h1 h2 h3 h4 h5 kc1 kc2 kc3 kc4 kc5 V0 v0_textSize o11.1 o11.2.1 o11.2.2.1 o11.2.2.2 o2.2.1 o2.2.2 x10 x9 c1 c5x c6x c7x c8x)) [0, 1, 2, 3, 4, 5] rfl
      have hD9 := hD.sub (ws' := (wX11_openBlock h0 h1 h2 h3 h4 h5 kc1 kc2 kc3 kc4 kc5 V0 v0_textSize o11.1 o11.2.1 o11.2.2.1 o11.2.2.2 o2.2.1 o2.2.2 x10 x9 c1 c5x c6x c7x c8x)) [0, 1, 2, 3, 4, 5] (by decide) rfl
      exact W.zret (v := 1) (ty := .boolean) hx hb hr rfl (fun t ht hW => ⟨⟨1, (o11.1, o11.2.1, o11.2.2.1, o11.2.2.2, o2.2.1, o2.2.2, x10, x9, c5x, c6x, c7x, c8x), rfl, ⟨rfl, rfl⟩, by rw [ht]; exact hP9, va_K.moved hW.alike hK, hD9⟩, hS.F ht⟩) hS.2.2 dX11_openBlock_102
    · replace hf := if_at hf cq4
      refine lv_aload_n hx hb dX11_openBlock_24 rfl (lv_at hl 0 rfl) ?_
      refine lv_iconst (v := 3) hx hb dX11_openBlock_25 (by decide +kernel) ?_
      refine lv_aload_n hx hb dX11_openBlock_26 rfl (lv_at hl 0 rfl) ?_
      refine va_get (D := (dC, dI)) (ci := 11) (v := .int v0_from) (C := RX11) (T := TX11) (N := 71) hx hb hts inlX11 hown hK hP 0 rfl rfl 21 (by decide) w6_ (fun _ h9 => h9) rfl dX11_openBlock_27 ?_
      obtain ⟨o12, e12, hf⟩ := ob_some hf
      refine kVi (As := [.int 3, .int v0_from]) (rest := []) ⟨hx, hb, hml, hown, hts⟩ (mX11_fail l dC dI h0 H.size base 3 v0_from o2.2.1 o2.2.2 (fun k => match k with | 19 => .int v0_textSize | 20 => .ref h1 | 21 => .int v0_from | 22 => .int v0_to | 23 => .int v0_token | 24 => .long v0_name | 50 => .int v0_blocks | 51 => .ref h2 | 52 => .ref h3 | 53 => .ref h4 | 54 => .int v0_open | 55 => .ref h5 | k => V0 k) o12 e12) (cwV 2 hts (gTV q840 q841 q842 q5 q843) rfl rfl rfl (by decide +kernel) ⟨Nat.le_of_ble_eq_true rfl, Nat.le_of_ble_eq_true rfl⟩) hK hP hD hS hA hE hAB [0] [1, 2, 3, 4, 5] [] (wr := [(h1, .inl (kc1, 600, .inl c1)), (h2, .inl (kc2, 90, .inl c2)), (h3, .inl (kc3, 90, .inl c3)), (h4, .inl (kc4, 90, .inl c4)), (h5, .inl (kc5, 12, .inl c5))]) rfl rfl (by decide) (by decide) (by decide) rfl (ci := 11) (q0 := 0) rfl rfl rfl rfl hl.1 rfl (Nat.le_of_ble_eq_true rfl) dX11_openBlock_30 ⟨Nat.zero_le _, Nat.zero_le _⟩ (fun r12 u12 H locs hw12 hP hD hS => ?_)
      obtain ⟨hw121, hw122⟩ := hw12
      subst hw121 hw122
      have hP : va_P (dC, dI) vwCl (wX11_openBlock h0 h1 h2 h3 h4 h5 kc1 kc2 kc3 kc4 kc5 V0 v0_textSize v0_from v0_to v0_token v0_name o12.2.1 o12.2.2 v0_blocks v0_open c1 c2 c3 c4 c5) H := hP.sub [5, 0, 1, 2, 3, 4] rfl
      have hD : va_D A (wX11_openBlock h0 h1 h2 h3 h4 h5 kc1 kc2 kc3 kc4 kc5 V0 v0_textSize v0_from v0_to v0_token v0_name o12.2.1 o12.2.2 v0_blocks v0_open c1 c2 c3 c4 c5) := hD.sub [5, 0, 1, 2, 3, 4] (by decide) rfl
      have b13 := bd_b hf
      replace hf := bd_k hf
      have hf1 := Option.some.inj hf
      subst hf1
      have hP9 := hP.sub (ws' := (wX11_openBlock h0 h1 h2 h3 h4 h5 kc1 kc2 kc3 kc4 kc5 V0 v0_textSize v0_from v0_to v0_token v0_name o12.2.1 o12.2.2 v0_blocks v0_open c1 c2 c3 c4 c5)) [0, 1, 2, 3, 4, 5] rfl
      have hD9 := hD.sub (ws' := (wX11_openBlock h0 h1 h2 h3 h4 h5 kc1 kc2 kc3 kc4 kc5 V0 v0_textSize v0_from v0_to v0_token v0_name o12.2.1 o12.2.2 v0_blocks v0_open c1 c2 c3 c4 c5)) [0, 1, 2, 3, 4, 5] (by decide) rfl
      exact W.zret (v := o12.1) (ty := .boolean) hx hb hr (bz_nar b13) (fun t ht hW => ⟨⟨o12.1, (v0_from, v0_to, v0_token, v0_name, o12.2.1, o12.2.2, v0_blocks, v0_open, c2, c3, c4, c5), rfl, ⟨rfl, rfl⟩, by rw [ht]; exact hP9, va_K.moved hW.alike hK, hD9⟩, hS.F ht⟩) hS.2.2 dX11_openBlock_33
  · replace hf := if_at hf cq3
    refine lv_iconst (v := 0) hx hb dX11_openBlock_13 (by decide +kernel) ?_
    have hf1 := Option.some.inj hf
    subst hf1
    have hP9 := hP.sub (ws' := (wX11_openBlock h0 h1 h2 h3 h4 h5 kc1 kc2 kc3 kc4 kc5 V0 v0_textSize v0_from v0_to v0_token v0_name o2.2.1 o2.2.2 v0_blocks v0_open c1 c2 c3 c4 c5)) [0, 1, 2, 3, 4, 5] rfl
    have hD9 := hD.sub (ws' := (wX11_openBlock h0 h1 h2 h3 h4 h5 kc1 kc2 kc3 kc4 kc5 V0 v0_textSize v0_from v0_to v0_token v0_name o2.2.1 o2.2.2 v0_blocks v0_open c1 c2 c3 c4 c5)) [0, 1, 2, 3, 4, 5] (by decide) rfl
    exact W.zret (v := 0) (ty := .boolean) hx hb hr rfl (fun t ht hW => ⟨⟨0, (v0_from, v0_to, v0_token, v0_name, o2.2.1, o2.2.2, v0_blocks, v0_open, c2, c3, c4, c5), rfl, ⟨rfl, rfl⟩, by rw [ht]; exact hP9, va_K.moved hW.alike hK, hD9⟩, hS.F ht⟩) hS.2.2 dX11_openBlock_14
abbrev wX11_closeBlock (h0 h1 h2 h3 h4 h5 : Nat) (kc1 kc2 kc3 kc4 kc5 : ClassId) (V0 : Nat → Value) (v0_textSize : Int32) (v0_from : Int32) (v0_to : Int32) (v0_token : Int32) (v0_name : Int64) (v0_wrong : Int32) (v0_wrongAt : Int32) (v0_blocks : Int32) (v0_open : Int32) (c1 : Nat → Int32) (c2 : Nat → Int32) (c3 : Nat → Int32) (c4 : Nat → Int32) (c5 : Nat → Int32) : va_W := [(h0, .inr (11, [V0 0, V0 1, V0 2, V0 3, V0 4, V0 5, V0 6, V0 7, V0 8, V0 9, V0 10, V0 11, V0 12, V0 13, V0 14, V0 15, V0 16, V0 17, V0 18, .int v0_textSize, .ref h2, .int v0_from, .int v0_to, .int v0_token, .long v0_name, .int v0_wrong, .int v0_wrongAt, V0 27, V0 28, V0 29, V0 30, V0 31, V0 32, V0 33, V0 34, V0 35, V0 36, V0 37, V0 38, V0 39, V0 40, V0 41, V0 42, V0 43, V0 44, V0 45, V0 46, V0 47, V0 48, V0 49, .int v0_blocks, .ref h4, .ref h3, .ref h5, .int v0_open, .ref h1, V0 56, V0 57, V0 58, V0 59, V0 60, V0 61, V0 62, V0 63, V0 64, V0 65, V0 66, V0 67, V0 68, V0 69, V0 70])), (h1, .inl (kc1, 12, .inl c1)), (h2, .inl (kc2, 600, .inl c2)), (h3, .inl (kc3, 90, .inl c3)), (h4, .inl (kc4, 90, .inl c4)), (h5, .inl (kc5, 90, .inl c5))]
set_option maxHeartbeats 4000000 in
set_option maxRecDepth 100000 in
theorem mX11_closeBlock (l : Launch) (dC : Nat → ClassId) (dI : Nat → Nat → Nat) (h0 h1 h2 h3 h4 h5 : Nat) (kc1 kc2 kc3 kc4 kc5 : ClassId) (sz : Nat) (base : Nat × Nat × Nat) (v0_textSize : Int32) (v0_from : Int32) (v0_to : Int32) (v0_token : Int32) (v0_name : Int64) (v0_wrong : Int32) (v0_wrongAt : Int32) (v0_blocks : Int32) (v0_open : Int32) (c1 : Nat → Int32) (c2 : Nat → Int32) (c3 : Nat → Int32) (c4 : Nat → Int32) (c5 : Nat → Int32) (V0 : Nat → Value) (o : Int32 × Int32 × Int32 × Int32 × Int64 × Int32 × Int32 × Int32 × Int32 × (Nat → Int32) × (Nat → Int32) × (Nat → Int32) × (Nat → Int32)) (hf : fX11_closeBlock v0_textSize v0_from v0_to v0_token v0_name v0_wrong v0_wrongAt v0_blocks v0_open c1 c2 c3 c4 c5 = some o) : Met l yX11_closeBlock (.code yX11_closeBlock cX11_closeBlock 2 (some .boolean) :: wsL_law) ({ frames := 4, cells := 0, slots := 0, locals := 85 }) (cPre (dC, dI) vwCl [.ref h0] sz base (wX11_closeBlock h0 h1 h2 h3 h4 h5 kc1 kc2 kc3 kc4 kc5 V0 v0_textSize v0_from v0_to v0_token v0_name v0_wrong v0_wrongAt v0_blocks v0_open c1 c2 c3 c4 c5) [(kc1, .int), (kc2, .int), (kc3, .int), (kc4, .int), (kc5, .int)]) (va_Qi (fun r u => r = o.1 ∧ u = o.2) (fun (u : Int32 × Int32 × Int32 × Int64 × Int32 × Int32 × Int32 × Int32 × (Nat → Int32) × (Nat → Int32) × (Nat → Int32) × (Nat → Int32)) t => cPost (dC, dI) vwCl (va_A (wX11_closeBlock h0 h1 h2 h3 h4 h5 kc1 kc2 kc3 kc4 kc5 V0 v0_textSize v0_from v0_to v0_token v0_name v0_wrong v0_wrongAt v0_blocks v0_open c1 c2 c3 c4 c5) sz) (wX11_closeBlock h0 h1 h2 h3 h4 h5 kc1 kc2 kc3 kc4 kc5 V0 v0_textSize u.1 u.2.1 u.2.2.1 u.2.2.2.1 u.2.2.2.2.1 u.2.2.2.2.2.1 u.2.2.2.2.2.2.1 u.2.2.2.2.2.2.2.1 u.2.2.2.2.2.2.2.2.1 c2 u.2.2.2.2.2.2.2.2.2.1 u.2.2.2.2.2.2.2.2.2.2.1 u.2.2.2.2.2.2.2.2.2.2.2) [(kc1, .int), (kc2, .int), (kc3, .int), (kc4, .int), (kc5, .int)] t) (va_A (wX11_closeBlock h0 h1 h2 h3 h4 h5 kc1 kc2 kc3 kc4 kc5 V0 v0_textSize v0_from v0_to v0_token v0_name v0_wrong v0_wrongAt v0_blocks v0_open c1 c2 c3 c4 c5) sz)) 0 0 (va_A (wX11_closeBlock h0 h1 h2 h3 h4 h5 kc1 kc2 kc3 kc4 kc5 V0 v0_textSize v0_from v0_to v0_token v0_name v0_wrong v0_wrongAt v0_blocks v0_open c1 c2 c3 c4 c5) sz) := by
  refine Met.ofW (cc := cX11_closeBlock) (maxL := 2) (ret := (some .boolean)) (by decide) rfl ?_
  intro p e s m args below meth c s₁ B hml hv
  obtain ⟨rfl, hsz, hP, hK, hD0, hE⟩ := hv
  have hx := B.exec
  have hb := B.bytes
  have hr := B.returns
  have hts : ∀ w ∈ wsL_law, _ := fun w h => atoms_spec (ws := .code yX11_closeBlock cX11_closeBlock 2 (some .boolean) :: wsL_law) B.pre w (List.mem_cons_of_mem _ h)
  have hown : s.vm.findClass RX11 = some m.cls := findClass_of_methodNamed B.named
  have hlocks := B.notSynchronized
  have w0_ := hts _ q793
  have w1_ := hts _ q835
  have w2_ := hts _ q117
  have w3_ := hts _ q115
  have w4_ := hts _ q817
  have w5_ := hts _ q114
  subst hsz
  have hD := hD0.self (sz := s.heap.size)
  generalize hAe : va_A (wX11_closeBlock h0 h1 h2 h3 h4 h5 kc1 kc2 kc3 kc4 kc5 V0 v0_textSize v0_from v0_to v0_token v0_name v0_wrong v0_wrongAt v0_blocks v0_open c1 c2 c3 c4 c5) s.heap.size = A at hD ⊢
  have hA : ∀ q : Nat, s.heap.size ≤ q → A q := fun q h => by rw [← hAe]; exact Or.inr h
  have hAB : ∀ q : Nat, A q → base.1 ≤ q := fun q h => by rw [← hAe] at h; exact h.elim (fun ⟨k, e, hk⟩ => hD0.2 k _ hk) (fun hk => Nat.le_trans hE.1 hk)
  have hS : va_S A s.heap s.heap [] := va_S.rf
  have hl := lv_entry ([.ref h0]) (n := 2) (Nat.le_of_ble_eq_true rfl)
  rw [lg_entry_eq]
  generalize (lg_sl ([.ref h0]) ++ List.replicate (2 - (lg_sl ([.ref h0])).length) Slot.unset).toArray = ls at hl ⊢
  have hl : lv_has ls 2 [(0, .ref h0)] := hl
  have hP : va_P (dC, dI) vwCl (wX11_closeBlock h0 h1 h2 h3 h4 h5 kc1 kc2 kc3 kc4 kc5 V0 v0_textSize v0_from v0_to v0_token v0_name v0_wrong v0_wrongAt v0_blocks v0_open c1 c2 c3 c4 c5) s.heap := hP
  refine gl_intro (fun G hG => ?_)
  have J80 : ∀ (z0 : Int32) (v0_from : Int32) (v0_to : Int32) (v0_token : Int32) (v0_name : Int64) (v0_wrong : Int32) (v0_wrongAt : Int32) (v0_blocks : Int32) (v0_open : Int32) (c1 : (Nat → Int32)) (c3 : (Nat → Int32)) (c4 : (Nat → Int32)) (c5 : (Nat → Int32)) (H : Heap) (locs : List Loc) (ls : Array Slot), va_P (dC, dI) vwCl (wX11_closeBlock h0 h1 h2 h3 h4 h5 kc1 kc2 kc3 kc4 kc5 V0 v0_textSize v0_from v0_to v0_token v0_name v0_wrong v0_wrongAt v0_blocks v0_open c1 c2 c3 c4 c5) H → va_D A (wX11_closeBlock h0 h1 h2 h3 h4 h5 kc1 kc2 kc3 kc4 kc5 V0 v0_textSize v0_from v0_to v0_token v0_name v0_wrong v0_wrongAt v0_blocks v0_open c1 c2 c3 c4 c5) → va_S A s.heap H locs → lv_has ls 2 [(0, .ref h0)] → fX11_closeBlock_p80 v0_textSize c2  z0 v0_from v0_to v0_token v0_name v0_wrong v0_wrongAt v0_blocks v0_open c1 c3 c4 c5 = some o → G 0 0 H locs (F0 m 80 ls [.int z0]) := by
    intro  z0 v0_from v0_to v0_token v0_name v0_wrong v0_wrongAt v0_blocks v0_open c1 c3 c4 c5 H locs ls hP hD hS hl hf
    refine (hG _ _ _ _ _).mpr ?_
    unfold fX11_closeBlock_p80 at hf
    have b1 := bd_b hf
    replace hf := bd_k hf
    have hf1 := Option.some.inj hf
    subst hf1
    have hP9 := hP.sub (ws' := (wX11_closeBlock h0 h1 h2 h3 h4 h5 kc1 kc2 kc3 kc4 kc5 V0 v0_textSize v0_from v0_to v0_token v0_name v0_wrong v0_wrongAt v0_blocks v0_open c1 c2 c3 c4 c5)) [0, 1, 2, 3, 4, 5] rfl
    have hD9 := hD.sub (ws' := (wX11_closeBlock h0 h1 h2 h3 h4 h5 kc1 kc2 kc3 kc4 kc5 V0 v0_textSize v0_from v0_to v0_token v0_name v0_wrong v0_wrongAt v0_blocks v0_open c1 c2 c3 c4 c5)) [0, 1, 2, 3, 4, 5] (by decide) rfl
    exact W.zret (v := z0) (ty := .boolean) hx hb hr (bz_nar b1) (fun t ht hW => ⟨⟨z0, (v0_from, v0_to, v0_token, v0_name, v0_wrong, v0_wrongAt, v0_blocks, v0_open, c1, c3, c4, c5), rfl, ⟨rfl, rfl⟩, by rw [ht]; exact hP9, va_K.moved hW.alike hK, hD9⟩, hS.F ht⟩) hS.2.2 dX11_closeBlock_80
  have J68 : ∀ (v0_from : Int32) (v0_to : Int32) (v0_token : Int32) (v0_name : Int64) (v0_wrong : Int32) (v0_wrongAt : Int32) (v0_blocks : Int32) (v0_open : Int32) (c1 : (Nat → Int32)) (c3 : (Nat → Int32)) (c4 : (Nat → Int32)) (c5 : (Nat → Int32)) (H : Heap) (locs : List Loc) (ls : Array Slot), va_P (dC, dI) vwCl (wX11_closeBlock h0 h1 h2 h3 h4 h5 kc1 kc2 kc3 kc4 kc5 V0 v0_textSize v0_from v0_to v0_token v0_name v0_wrong v0_wrongAt v0_blocks v0_open c1 c2 c3 c4 c5) H → va_D A (wX11_closeBlock h0 h1 h2 h3 h4 h5 kc1 kc2 kc3 kc4 kc5 V0 v0_textSize v0_from v0_to v0_token v0_name v0_wrong v0_wrongAt v0_blocks v0_open c1 c2 c3 c4 c5) → va_S A s.heap H locs → lv_has ls 2 [(0, .ref h0)] → fX11_closeBlock_p68 v0_textSize c2  v0_from v0_to v0_token v0_name v0_wrong v0_wrongAt v0_blocks v0_open c1 c3 c4 c5 = some o → G 0 0 H locs (F0 m 68 ls []) := by
    intro  v0_from v0_to v0_token v0_name v0_wrong v0_wrongAt v0_blocks v0_open c1 c3 c4 c5 H locs ls hP hD hS hl hf
    refine (hG _ _ _ _ _).mpr ?_
    unfold fX11_closeBlock_p68 at hf
    refine lv_aload_n hx hb dX11_closeBlock_68 rfl (lv_at hl 0 rfl) ?_
    refine va_get (D := (dC, dI)) (ci := 11) (v := .int v0_wrong) (C := RX11) (T := TX11) (N := 71) hx hb hts inlX11 hown hK hP 0 rfl rfl 25 (by decide) w0_ (fun _ h9 => h9) rfl dX11_closeBlock_69 ?_
    refine lv_if_ne (tgt := 79) hx hb dX11_closeBlock_72 (by decide) (fun cq2 => ?_) (fun cq2 => ?_)
    · replace hf := if_no hf cq2
      refine lv_iconst (v := 0) hx hb dX11_closeBlock_79 (by decide +kernel) ?_
      exact (hG _ _ _ _ _).mp (J80 0 v0_from v0_to v0_token v0_name v0_wrong v0_wrongAt v0_blocks v0_open c1 c3 c4 c5 H locs ls (hP.sub [0, 1, 2, 3, 4, 5] rfl) (hD.sub [0, 1, 2, 3, 4, 5] (by decide) rfl) hS (lv_sub hl [0] rfl) hf)
    · replace hf := if_at hf cq2
      refine lv_iconst (v := 1) hx hb dX11_closeBlock_75 (by decide +kernel) ?_
      refine lv_goto (tgt := 80) hx hb dX11_closeBlock_76 (by decide) ?_
      exact (hG _ _ _ _ _).mp (J80 1 v0_from v0_to v0_token v0_name v0_wrong v0_wrongAt v0_blocks v0_open c1 c3 c4 c5 H locs ls (hP.sub [0, 1, 2, 3, 4, 5] rfl) (hD.sub [0, 1, 2, 3, 4, 5] (by decide) rfl) hS (lv_sub hl [0] rfl) hf)
  refine (hG _ _ _ _ _).mpr ?_
  obtain ⟨H, hH⟩ : ∃ H, H = s.heap := ⟨_, rfl⟩
  have hS : va_S A s.heap H [] := by rw [hH]; exact hS
  rw [← hH] at hP ⊢
  generalize ([] : List Loc) = locs at hS ⊢
  unfold fX11_closeBlock at hf
  refine lv_aload_n hx hb dX11_closeBlock_0 rfl (lv_at hl 0 rfl) ?_
  refine lv_dup hx hb dX11_closeBlock_1 rfl ?_
  refine va_get (D := (dC, dI)) (ci := 11) (v := .int v0_open) (C := RX11) (T := TX11) (N := 71) hx hb hts inlX11 hown hK hP 0 rfl rfl 54 (by decide) w1_ (fun _ h9 => h9) rfl dX11_closeBlock_2 ?_
  refine lv_iconst (v := 1) hx hb dX11_closeBlock_5 (by decide +kernel) ?_
  refine lv_isub hx hb dX11_closeBlock_6 ?_
  refine lv_topi (fun x3 e3 => ?_)
  replace hf := nm_at hf e3
  refine va_put (D := (dC, dI)) (ci := 11) (v := .int x3) (ty := .int) (C := RX11) (T := TX11) (N := 71) hx hb hts inlX11 tyX11 tyX11_ok nmX11 hown hK hP hD hS 0 rfl rfl 54 (by decide) w1_ (fun _ h9 => h9) rfl (by decide +kernel) rfl rfl (Nat.le_of_ble_eq_true rfl) dX11_closeBlock_7 (fun H locs hP hD hS => ?_)
  have hP : va_P (dC, dI) vwCl (wX11_closeBlock h0 h1 h2 h3 h4 h5 kc1 kc2 kc3 kc4 kc5 V0 v0_textSize v0_from v0_to v0_token v0_name v0_wrong v0_wrongAt v0_blocks x3 c1 c2 c3 c4 c5) H := hP
  have hD : va_D A (wX11_closeBlock h0 h1 h2 h3 h4 h5 kc1 kc2 kc3 kc4 kc5 V0 v0_textSize v0_from v0_to v0_token v0_name v0_wrong v0_wrongAt v0_blocks x3 c1 c2 c3 c4 c5) := hD
  refine lv_aload_n hx hb dX11_closeBlock_10 rfl (lv_at hl 0 rfl) ?_
  refine va_get (D := (dC, dI)) (ci := 11) (v := .ref h1) (C := RX11) (T := TX11) (N := 71) hx hb hts inlX11 hown hK hP 0 rfl rfl 55 (by decide) w2_ (fun _ h9 => h9) rfl dX11_closeBlock_11 ?_
  refine lv_aload_n hx hb dX11_closeBlock_14 rfl (lv_at hl 0 rfl) ?_
  refine va_get (D := (dC, dI)) (ci := 11) (v := .int x3) (C := RX11) (T := TX11) (N := 71) hx hb hts inlX11 hown hK hP 0 rfl rfl 54 (by decide) w1_ (fun _ h9 => h9) rfl dX11_closeBlock_15 ?_
  have b4 := bd_in hf
  replace hf := bd_k hf
  refine va_iald hx hb hK hP 1 0 rfl rfl b4 dX11_closeBlock_18 ?_
  refine lv_topi (fun x5 e5 => ?_)
  replace hf := nm_at hf e5
  refine lv_istore_n (lv' := [(1, .int x5), (0, .ref h0)]) hx hb dX11_closeBlock_19 rfl hl (by decide) rfl (fun ls hl => ?_)
  refine lv_aload_n hx hb dX11_closeBlock_20 rfl (lv_at hl 1 rfl) ?_
  obtain ⟨o6, e6, hf⟩ := ob_some hf
  refine kVv (As := []) (rest := []) ⟨hx, hb, hml, hown, hts⟩ (mX11_next l dC dI h0 h2 kc2 H.size base v0_textSize v0_from v0_to v0_token v0_name c2 (fun k => match k with | 25 => .int v0_wrong | 26 => .int v0_wrongAt | 50 => .int v0_blocks | 51 => .ref h4 | 52 => .ref h3 | 53 => .ref h5 | 54 => .int x3 | 55 => .ref h1 | k => V0 k) o6 e6) (cwV 0 hts (gTV q797 q798 q799 q5 q800) rfl rfl rfl (by decide +kernel) ⟨Nat.le_of_ble_eq_true rfl, Nat.le_of_ble_eq_true rfl⟩) hK hP hD hS hA hE hAB [0, 2] [1, 3, 4, 5] [1] (wr := [(h1, .inl (kc1, 12, .inl c1)), (h3, .inl (kc3, 90, .inl c3)), (h4, .inl (kc4, 90, .inl c4)), (h5, .inl (kc5, 90, .inl c5))]) rfl rfl (by decide) (by decide) (by decide) rfl (ci := 11) (q0 := 0) rfl rfl rfl rfl hl.1 rfl (Nat.le_of_ble_eq_true rfl) dX11_closeBlock_21 ⟨Nat.zero_le _, Nat.zero_le _⟩ (fun u6 H locs hw6 hP hD hS => ?_)
  have hw61 : o6 = u6 := Eq.symm hw6
  subst hw61
  have hP : va_P (dC, dI) vwCl (wX11_closeBlock h0 h1 h2 h3 h4 h5 kc1 kc2 kc3 kc4 kc5 V0 v0_textSize o6.1 o6.2.1 o6.2.2.1 o6.2.2.2 v0_wrong v0_wrongAt v0_blocks x3 c1 c2 c3 c4 c5) H := hP.sub [4, 0, 5, 1, 2, 3] rfl
  have hD : va_D A (wX11_closeBlock h0 h1 h2 h3 h4 h5 kc1 kc2 kc3 kc4 kc5 V0 v0_textSize o6.1 o6.2.1 o6.2.2.1 o6.2.2.2 v0_wrong v0_wrongAt v0_blocks x3 c1 c2 c3 c4 c5) := hD.sub [4, 0, 5, 1, 2, 3] (by decide) rfl
  refine lv_aload_n hx hb dX11_closeBlock_24 rfl (lv_at hl 1 rfl) ?_
  refine va_get (D := (dC, dI)) (ci := 11) (v := .ref h3) (C := RX11) (T := TX11) (N := 71) hx hb hts inlX11 hown hK hP 0 rfl rfl 52 (by decide) w3_ (fun _ h9 => h9) rfl dX11_closeBlock_25 ?_
  refine lv_iload_n hx hb dX11_closeBlock_28 rfl (lv_at hl 0 rfl) ?_
  have b7 := bd_in hf
  replace hf := bd_k hf
  refine va_iald hx hb hK hP 3 2 rfl rfl b7 dX11_closeBlock_29 ?_
  refine lv_topi (fun x8 e8 => ?_)
  replace hf := nm_at hf e8
  refine lv_iconst (v := 1) hx hb dX11_closeBlock_30 (by decide +kernel) ?_
  refine lv_icmp_ne (tgt := 68) hx hb dX11_closeBlock_31 (by decide) (fun cq9 => ?_) (fun cq9 => ?_)
  · replace hf := if_no hf cq9
    exact (hG _ _ _ _ _).mp (J68 o6.1 o6.2.1 o6.2.2.1 o6.2.2.2 v0_wrong v0_wrongAt v0_blocks x3 c1 c3 c4 c5 H locs ls (hP.sub [0, 1, 2, 3, 4, 5] rfl) (hD.sub [0, 1, 2, 3, 4, 5] (by decide) rfl) hS (lv_sub hl [1] rfl) hf)
  · replace hf := if_at hf cq9
    refine lv_aload_n hx hb dX11_closeBlock_34 rfl (lv_at hl 1 rfl) ?_
    refine lv_iconst (v := 1) hx hb dX11_closeBlock_35 (by decide +kernel) ?_
    obtain ⟨o10, e10, hf⟩ := ob_some hf
    refine kVi (As := [.int 1]) (rest := []) ⟨hx, hb, hml, hown, hts⟩ (mX11_may l dC dI h0 H.size base 1 o6.1 o6.2.2.1 v0_wrong v0_wrongAt (fun k => match k with | 19 => .int v0_textSize | 20 => .ref h2 | 22 => .int o6.2.1 | 24 => .long o6.2.2.2 | 50 => .int v0_blocks | 51 => .ref h4 | 52 => .ref h3 | 53 => .ref h5 | 54 => .int x3 | 55 => .ref h1 | k => V0 k) o10 e10) (cwV 1 hts (gTV q836 q837 q838 q5 q839) rfl rfl rfl (by decide +kernel) ⟨Nat.le_of_ble_eq_true rfl, Nat.le_of_ble_eq_true rfl⟩) hK hP hD hS hA hE hAB [0] [1, 2, 3, 4, 5] [] (wr := [(h1, .inl (kc1, 12, .inl c1)), (h2, .inl (kc2, 600, .inl c2)), (h3, .inl (kc3, 90, .inl c3)), (h4, .inl (kc4, 90, .inl c4)), (h5, .inl (kc5, 90, .inl c5))]) rfl rfl (by decide) (by decide) (by decide) rfl (ci := 11) (q0 := 0) rfl rfl rfl rfl hl.1 rfl (Nat.le_of_ble_eq_true rfl) dX11_closeBlock_36 ⟨Nat.zero_le _, Nat.zero_le _⟩ (fun r10 u10 H locs hw10 hP hD hS => ?_)
    obtain ⟨hw101, hw102⟩ := hw10
    subst hw101 hw102
    have hP : va_P (dC, dI) vwCl (wX11_closeBlock h0 h1 h2 h3 h4 h5 kc1 kc2 kc3 kc4 kc5 V0 v0_textSize o6.1 o6.2.1 o6.2.2.1 o6.2.2.2 o10.2.1 o10.2.2 v0_blocks x3 c1 c2 c3 c4 c5) H := hP.sub [5, 0, 1, 2, 3, 4] rfl
    have hD : va_D A (wX11_closeBlock h0 h1 h2 h3 h4 h5 kc1 kc2 kc3 kc4 kc5 V0 v0_textSize o6.1 o6.2.1 o6.2.2.1 o6.2.2.2 o10.2.1 o10.2.2 v0_blocks x3 c1 c2 c3 c4 c5) := hD.sub [5, 0, 1, 2, 3, 4] (by decide) rfl
    refine lv_if_eq (tgt := 68) hx hb dX11_closeBlock_39 (by decide) (fun cq11 => ?_) (fun cq11 => ?_)
    · replace hf := if_at hf cq11
      exact (hG _ _ _ _ _).mp (J68 o6.1 o6.2.1 o6.2.2.1 o6.2.2.2 o10.2.1 o10.2.2 v0_blocks x3 c1 c3 c4 c5 H locs ls (hP.sub [0, 1, 2, 3, 4, 5] rfl) (hD.sub [0, 1, 2, 3, 4, 5] (by decide) rfl) hS (lv_sub hl [1] rfl) hf)
    · replace hf := if_no hf cq11
      refine lv_aload_n hx hb dX11_closeBlock_42 rfl (lv_at hl 1 rfl) ?_
      refine lv_ldc2 (v := 1701606245) hx hb hown w4_ dX11_closeBlock_43 ?_
      obtain ⟨o12, e12, hf⟩ := ob_some hf
      refine kVi (As := [.long 1701606245]) (rest := []) ⟨hx, hb, hml, hown, hts⟩ (mX11_isThe l dC dI h0 H.size base 1701606245 o6.2.2.1 o6.2.2.2 (fun k => match k with | 19 => .int v0_textSize | 20 => .ref h2 | 21 => .int o6.1 | 22 => .int o6.2.1 | 25 => .int o10.2.1 | 26 => .int o10.2.2 | 50 => .int v0_blocks | 51 => .ref h4 | 52 => .ref h3 | 53 => .ref h5 | 54 => .int x3 | 55 => .ref h1 | k => V0 k) o12 e12) (cwV 1 hts (gTV q844 q845 q846 q5 q847) rfl rfl rfl (by decide +kernel) ⟨Nat.le_of_ble_eq_true rfl, Nat.le_of_ble_eq_true rfl⟩) hK hP hD hS hA hE hAB [0] [1, 2, 3, 4, 5] [] (wr := [(h1, .inl (kc1, 12, .inl c1)), (h2, .inl (kc2, 600, .inl c2)), (h3, .inl (kc3, 90, .inl c3)), (h4, .inl (kc4, 90, .inl c4)), (h5, .inl (kc5, 90, .inl c5))]) rfl rfl (by decide) (by decide) (by decide) rfl (ci := 11) (q0 := 0) rfl rfl rfl rfl hl.1 rfl (Nat.le_of_ble_eq_true rfl) dX11_closeBlock_46 ⟨Nat.zero_le _, Nat.zero_le _⟩ (fun r12 u12 H locs hw12 hP hD hS => ?_)
      obtain ⟨hw121, hw122⟩ := hw12
      subst hw121 hw122
      have hP : va_P (dC, dI) vwCl (wX11_closeBlock h0 h1 h2 h3 h4 h5 kc1 kc2 kc3 kc4 kc5 V0 v0_textSize o6.1 o6.2.1 o6.2.2.1 o6.2.2.2 o10.2.1 o10.2.2 v0_blocks x3 c1 c2 c3 c4 c5) H := hP.sub [5, 0, 1, 2, 3, 4] rfl
      have hD : va_D A (wX11_closeBlock h0 h1 h2 h3 h4 h5 kc1 kc2 kc3 kc4 kc5 V0 v0_textSize o6.1 o6.2.1 o6.2.2.1 o6.2.2.2 o10.2.1 o10.2.2 v0_blocks x3 c1 c2 c3 c4 c5) := hD.sub [5, 0, 1, 2, 3, 4] (by decide) rfl
      refine lv_if_eq (tgt := 68) hx hb dX11_closeBlock_49 (by decide) (fun cq13 => ?_) (fun cq13 => ?_)
      · replace hf := if_at hf cq13
        exact (hG _ _ _ _ _).mp (J68 o6.1 o6.2.1 o6.2.2.1 o6.2.2.2 o10.2.1 o10.2.2 v0_blocks x3 c1 c3 c4 c5 H locs ls (hP.sub [0, 1, 2, 3, 4, 5] rfl) (hD.sub [0, 1, 2, 3, 4, 5] (by decide) rfl) hS (lv_sub hl [1] rfl) hf)
      · replace hf := if_no hf cq13
        refine lv_aload_n hx hb dX11_closeBlock_52 rfl (lv_at hl 1 rfl) ?_
        obtain ⟨o14, e14, hf⟩ := ob_some hf
        refine kVv (As := []) (rest := []) ⟨hx, hb, hml, hown, hts⟩ (mX11_next l dC dI h0 h2 kc2 H.size base v0_textSize o6.1 o6.2.1 o6.2.2.1 o6.2.2.2 c2 (fun k => match k with | 25 => .int o10.2.1 | 26 => .int o10.2.2 | 50 => .int v0_blocks | 51 => .ref h4 | 52 => .ref h3 | 53 => .ref h5 | 54 => .int x3 | 55 => .ref h1 | k => V0 k) o14 e14) (cwV 0 hts (gTV q797 q798 q799 q5 q800) rfl rfl rfl (by decide +kernel) ⟨Nat.le_of_ble_eq_true rfl, Nat.le_of_ble_eq_true rfl⟩) hK hP hD hS hA hE hAB [0, 2] [1, 3, 4, 5] [1] (wr := [(h1, .inl (kc1, 12, .inl c1)), (h3, .inl (kc3, 90, .inl c3)), (h4, .inl (kc4, 90, .inl c4)), (h5, .inl (kc5, 90, .inl c5))]) rfl rfl (by decide) (by decide) (by decide) rfl (ci := 11) (q0 := 0) rfl rfl rfl rfl hl.1 rfl (Nat.le_of_ble_eq_true rfl) dX11_closeBlock_53 ⟨Nat.zero_le _, Nat.zero_le _⟩ (fun u14 H locs hw14 hP hD hS => ?_)
        have hw141 : o14 = u14 := Eq.symm hw14
        subst hw141
        have hP : va_P (dC, dI) vwCl (wX11_closeBlock h0 h1 h2 h3 h4 h5 kc1 kc2 kc3 kc4 kc5 V0 v0_textSize o14.1 o14.2.1 o14.2.2.1 o14.2.2.2 o10.2.1 o10.2.2 v0_blocks x3 c1 c2 c3 c4 c5) H := hP.sub [4, 0, 5, 1, 2, 3] rfl
        have hD : va_D A (wX11_closeBlock h0 h1 h2 h3 h4 h5 kc1 kc2 kc3 kc4 kc5 V0 v0_textSize o14.1 o14.2.1 o14.2.2.1 o14.2.2.2 o10.2.1 o10.2.2 v0_blocks x3 c1 c2 c3 c4 c5) := hD.sub [4, 0, 5, 1, 2, 3] (by decide) rfl
        refine lv_aload_n hx hb dX11_closeBlock_56 rfl (lv_at hl 1 rfl) ?_
        refine lv_aload_n hx hb dX11_closeBlock_57 rfl (lv_at hl 1 rfl) ?_
        refine va_get (D := (dC, dI)) (ci := 11) (v := .ref h4) (C := RX11) (T := TX11) (N := 71) hx hb hts inlX11 hown hK hP 0 rfl rfl 51 (by decide) w5_ (fun _ h9 => h9) rfl dX11_closeBlock_58 ?_
        refine lv_iload_n hx hb dX11_closeBlock_61 rfl (lv_at hl 0 rfl) ?_
        have b15 := bd_in hf
        replace hf := bd_k hf
        refine va_iald hx hb hK hP 4 3 rfl rfl b15 dX11_closeBlock_62 ?_
        refine lv_topi (fun x16 e16 => ?_)
        replace hf := nm_at hf e16
        refine lv_iconst (v := 2) hx hb dX11_closeBlock_63 (by decide +kernel) ?_
        obtain ⟨o17, e17, hf⟩ := ob_some hf
        refine kVi (As := [.int x16, .int 2]) (rest := []) ⟨hx, hb, hml, hown, hts⟩ (mX11_openBlock l dC dI h0 h2 h4 h3 h5 h1 kc2 kc4 kc3 kc5 kc1 H.size base x16 2 v0_textSize o14.1 o14.2.1 o14.2.2.1 o14.2.2.2 o10.2.1 o10.2.2 v0_blocks x3 c2 c4 c3 c5 c1 V0 o17 e17) (cwV 2 hts (gTV q864 q865 q866 q5 q867) rfl rfl rfl (by decide +kernel) ⟨Nat.le_of_ble_eq_true rfl, Nat.le_of_ble_eq_true rfl⟩) hK hP hD hS hA hE hAB [0, 2, 4, 3, 5, 1] [] [1, 3, 2, 4, 0] (wr := []) rfl rfl (by decide) (by decide) (by decide) rfl (ci := 11) (q0 := 0) rfl rfl rfl rfl hl.1 rfl (Nat.le_of_ble_eq_true rfl) dX11_closeBlock_64 ⟨Nat.zero_le _, Nat.zero_le _⟩ (fun r17 u17 H locs hw17 hP hD hS => ?_)
        obtain ⟨hw171, hw172⟩ := hw17
        subst hw171 hw172
        have hP : va_P (dC, dI) vwCl (wX11_closeBlock h0 h1 h2 h3 h4 h5 kc1 kc2 kc3 kc4 kc5 V0 v0_textSize o17.2.1 o17.2.2.1 o17.2.2.2.1 o17.2.2.2.2.1 o17.2.2.2.2.2.1 o17.2.2.2.2.2.2.1 o17.2.2.2.2.2.2.2.1 o17.2.2.2.2.2.2.2.2.1 o17.2.2.2.2.2.2.2.2.2.2.2.2 c2 o17.2.2.2.2.2.2.2.2.2.2.1 o17.2.2.2.2.2.2.2.2.2.1 o17.2.2.2.2.2.2.2.2.2.2.2.1) H := hP.sub [0, 5, 1, 3, 2, 4] rfl
        have hD : va_D A (wX11_closeBlock h0 h1 h2 h3 h4 h5 kc1 kc2 kc3 kc4 kc5 V0 v0_textSize o17.2.1 o17.2.2.1 o17.2.2.2.1 o17.2.2.2.2.1 o17.2.2.2.2.2.1 o17.2.2.2.2.2.2.1 o17.2.2.2.2.2.2.2.1 o17.2.2.2.2.2.2.2.2.1 o17.2.2.2.2.2.2.2.2.2.2.2.2 c2 o17.2.2.2.2.2.2.2.2.2.2.1 o17.2.2.2.2.2.2.2.2.2.1 o17.2.2.2.2.2.2.2.2.2.2.2.1) := hD.sub [0, 5, 1, 3, 2, 4] (by decide) rfl
        have b18 := bd_b hf
        replace hf := bd_k hf
        have hf1 := Option.some.inj hf
        subst hf1
        have hP9 := hP.sub (ws' := (wX11_closeBlock h0 h1 h2 h3 h4 h5 kc1 kc2 kc3 kc4 kc5 V0 v0_textSize o17.2.1 o17.2.2.1 o17.2.2.2.1 o17.2.2.2.2.1 o17.2.2.2.2.2.1 o17.2.2.2.2.2.2.1 o17.2.2.2.2.2.2.2.1 o17.2.2.2.2.2.2.2.2.1 o17.2.2.2.2.2.2.2.2.2.2.2.2 c2 o17.2.2.2.2.2.2.2.2.2.2.1 o17.2.2.2.2.2.2.2.2.2.1 o17.2.2.2.2.2.2.2.2.2.2.2.1)) [0, 1, 2, 3, 4, 5] rfl
        have hD9 := hD.sub (ws' := (wX11_closeBlock h0 h1 h2 h3 h4 h5 kc1 kc2 kc3 kc4 kc5 V0 v0_textSize o17.2.1 o17.2.2.1 o17.2.2.2.1 o17.2.2.2.2.1 o17.2.2.2.2.2.1 o17.2.2.2.2.2.2.1 o17.2.2.2.2.2.2.2.1 o17.2.2.2.2.2.2.2.2.1 o17.2.2.2.2.2.2.2.2.2.2.2.2 c2 o17.2.2.2.2.2.2.2.2.2.2.1 o17.2.2.2.2.2.2.2.2.2.1 o17.2.2.2.2.2.2.2.2.2.2.2.1)) [0, 1, 2, 3, 4, 5] (by decide) rfl
        exact W.zret (v := o17.1) (ty := .boolean) hx hb hr (bz_nar b18) (fun t ht hW => ⟨⟨o17.1, (o17.2.1, o17.2.2.1, o17.2.2.2.1, o17.2.2.2.2.1, o17.2.2.2.2.2.1, o17.2.2.2.2.2.2.1, o17.2.2.2.2.2.2.2.1, o17.2.2.2.2.2.2.2.2.1, o17.2.2.2.2.2.2.2.2.2.2.2.2, o17.2.2.2.2.2.2.2.2.2.2.1, o17.2.2.2.2.2.2.2.2.2.1, o17.2.2.2.2.2.2.2.2.2.2.2.1), rfl, ⟨rfl, rfl⟩, by rw [ht]; exact hP9, va_K.moved hW.alike hK, hD9⟩, hS.F ht⟩) hS.2.2 dX11_closeBlock_67
set_option maxHeartbeats 4000000 in
set_option maxRecDepth 100000 in
theorem mX11_drop (l : Launch) (dC : Nat → ClassId) (dI : Nat → Nat → Nat) (h0 : Nat) (sz : Nat) (base : Nat × Nat × Nat) (v0_thrown : Int32) (v0_size : Int32) (v0_wayState : Int32) (V0 : Nat → Value) (o : Int32 × Int32 × Int32 × Int32) (hf : fX11_drop v0_thrown v0_size v0_wayState = some o) : Met l yX11_drop (.code yX11_drop cX11_drop 2 (some .int) :: wsL_law) ({ frames := 0, cells := 0, slots := 0, locals := 0 }) (cPre (dC, dI) vwCl [.ref h0] sz base [(h0, .inr (11, [.int v0_thrown, V0 1, V0 2, V0 3, V0 4, V0 5, .int v0_size, V0 7, V0 8, V0 9, .int v0_wayState, V0 11, V0 12, V0 13, V0 14, V0 15, V0 16, V0 17, V0 18, V0 19, V0 20, V0 21, V0 22, V0 23, V0 24, V0 25, V0 26, V0 27, V0 28, V0 29, V0 30, V0 31, V0 32, V0 33, V0 34, V0 35, V0 36, V0 37, V0 38, V0 39, V0 40, V0 41, V0 42, V0 43, V0 44, V0 45, V0 46, V0 47, V0 48, V0 49, V0 50, V0 51, V0 52, V0 53, V0 54, V0 55, V0 56, V0 57, V0 58, V0 59, V0 60, V0 61, V0 62, V0 63, V0 64, V0 65, V0 66, V0 67, V0 68, V0 69, V0 70]))] []) (va_Qi (fun r u => r = o.1 ∧ u = o.2) (fun (u : Int32 × Int32 × Int32) t => cPost (dC, dI) vwCl (va_A [(h0, .inr (11, [.int v0_thrown, V0 1, V0 2, V0 3, V0 4, V0 5, .int v0_size, V0 7, V0 8, V0 9, .int v0_wayState, V0 11, V0 12, V0 13, V0 14, V0 15, V0 16, V0 17, V0 18, V0 19, V0 20, V0 21, V0 22, V0 23, V0 24, V0 25, V0 26, V0 27, V0 28, V0 29, V0 30, V0 31, V0 32, V0 33, V0 34, V0 35, V0 36, V0 37, V0 38, V0 39, V0 40, V0 41, V0 42, V0 43, V0 44, V0 45, V0 46, V0 47, V0 48, V0 49, V0 50, V0 51, V0 52, V0 53, V0 54, V0 55, V0 56, V0 57, V0 58, V0 59, V0 60, V0 61, V0 62, V0 63, V0 64, V0 65, V0 66, V0 67, V0 68, V0 69, V0 70]))] sz) [(h0, .inr (11, [.int u.1, V0 1, V0 2, V0 3, V0 4, V0 5, .int u.2.1, V0 7, V0 8, V0 9, .int u.2.2, V0 11, V0 12, V0 13, V0 14, V0 15, V0 16, V0 17, V0 18, V0 19, V0 20, V0 21, V0 22, V0 23, V0 24, V0 25, V0 26, V0 27, V0 28, V0 29, V0 30, V0 31, V0 32, V0 33, V0 34, V0 35, V0 36, V0 37, V0 38, V0 39, V0 40, V0 41, V0 42, V0 43, V0 44, V0 45, V0 46, V0 47, V0 48, V0 49, V0 50, V0 51, V0 52, V0 53, V0 54, V0 55, V0 56, V0 57, V0 58, V0 59, V0 60, V0 61, V0 62, V0 63, V0 64, V0 65, V0 66, V0 67, V0 68, V0 69, V0 70]))] [] t) (va_A [(h0, .inr (11, [.int v0_thrown, V0 1, V0 2, V0 3, V0 4, V0 5, .int v0_size, V0 7, V0 8, V0 9, .int v0_wayState, V0 11, V0 12, V0 13, V0 14, V0 15, V0 16, V0 17, V0 18, V0 19, V0 20, V0 21, V0 22, V0 23, V0 24, V0 25, V0 26, V0 27, V0 28, V0 29, V0 30, V0 31, V0 32, V0 33, V0 34, V0 35, V0 36, V0 37, V0 38, V0 39, V0 40, V0 41, V0 42, V0 43, V0 44, V0 45, V0 46, V0 47, V0 48, V0 49, V0 50, V0 51, V0 52, V0 53, V0 54, V0 55, V0 56, V0 57, V0 58, V0 59, V0 60, V0 61, V0 62, V0 63, V0 64, V0 65, V0 66, V0 67, V0 68, V0 69, V0 70]))] sz)) 0 0 (va_A [(h0, .inr (11, [.int v0_thrown, V0 1, V0 2, V0 3, V0 4, V0 5, .int v0_size, V0 7, V0 8, V0 9, .int v0_wayState, V0 11, V0 12, V0 13, V0 14, V0 15, V0 16, V0 17, V0 18, V0 19, V0 20, V0 21, V0 22, V0 23, V0 24, V0 25, V0 26, V0 27, V0 28, V0 29, V0 30, V0 31, V0 32, V0 33, V0 34, V0 35, V0 36, V0 37, V0 38, V0 39, V0 40, V0 41, V0 42, V0 43, V0 44, V0 45, V0 46, V0 47, V0 48, V0 49, V0 50, V0 51, V0 52, V0 53, V0 54, V0 55, V0 56, V0 57, V0 58, V0 59, V0 60, V0 61, V0 62, V0 63, V0 64, V0 65, V0 66, V0 67, V0 68, V0 69, V0 70]))] sz) := by
  refine Met.ofW (cc := cX11_drop) (maxL := 2) (ret := (some .int)) (by decide) rfl ?_
  intro p e s m args below meth c s₁ B hml hv
  obtain ⟨rfl, hsz, hP, hK, hD0, hE⟩ := hv
  have hx := B.exec
  have hb := B.bytes
  have hr := B.returns
  have hts : ∀ w ∈ wsL_law, _ := fun w h => atoms_spec (ws := .code yX11_drop cX11_drop 2 (some .int) :: wsL_law) B.pre w (List.mem_cons_of_mem _ h)
  have hown : s.vm.findClass RX11 = some m.cls := findClass_of_methodNamed B.named
  have hlocks := B.notSynchronized
  have w0_ := hts _ q146
  have w1_ := hts _ q216
  have w2_ := hts _ q84
  subst hsz
  have hD := hD0.self (sz := s.heap.size)
  generalize hAe : va_A [(h0, .inr (11, [.int v0_thrown, V0 1, V0 2, V0 3, V0 4, V0 5, .int v0_size, V0 7, V0 8, V0 9, .int v0_wayState, V0 11, V0 12, V0 13, V0 14, V0 15, V0 16, V0 17, V0 18, V0 19, V0 20, V0 21, V0 22, V0 23, V0 24, V0 25, V0 26, V0 27, V0 28, V0 29, V0 30, V0 31, V0 32, V0 33, V0 34, V0 35, V0 36, V0 37, V0 38, V0 39, V0 40, V0 41, V0 42, V0 43, V0 44, V0 45, V0 46, V0 47, V0 48, V0 49, V0 50, V0 51, V0 52, V0 53, V0 54, V0 55, V0 56, V0 57, V0 58, V0 59, V0 60, V0 61, V0 62, V0 63, V0 64, V0 65, V0 66, V0 67, V0 68, V0 69, V0 70]))] s.heap.size = A at hD ⊢
  have hA : ∀ q : Nat, s.heap.size ≤ q → A q := fun q h => by rw [← hAe]; exact Or.inr h
  have hAB : ∀ q : Nat, A q → base.1 ≤ q := fun q h => by rw [← hAe] at h; exact h.elim (fun ⟨k, e, hk⟩ => hD0.2 k _ hk) (fun hk => Nat.le_trans hE.1 hk)
  have hS : va_S A s.heap s.heap [] := va_S.rf
  have hl := lv_entry ([.ref h0]) (n := 2) (Nat.le_of_ble_eq_true rfl)
  rw [lg_entry_eq]
  generalize (lg_sl ([.ref h0]) ++ List.replicate (2 - (lg_sl ([.ref h0])).length) Slot.unset).toArray = ls at hl ⊢
  have hl : lv_has ls 2 [(0, .ref h0)] := hl
  have hP : va_P (dC, dI) vwCl [(h0, .inr (11, [.int v0_thrown, V0 1, V0 2, V0 3, V0 4, V0 5, .int v0_size, V0 7, V0 8, V0 9, .int v0_wayState, V0 11, V0 12, V0 13, V0 14, V0 15, V0 16, V0 17, V0 18, V0 19, V0 20, V0 21, V0 22, V0 23, V0 24, V0 25, V0 26, V0 27, V0 28, V0 29, V0 30, V0 31, V0 32, V0 33, V0 34, V0 35, V0 36, V0 37, V0 38, V0 39, V0 40, V0 41, V0 42, V0 43, V0 44, V0 45, V0 46, V0 47, V0 48, V0 49, V0 50, V0 51, V0 52, V0 53, V0 54, V0 55, V0 56, V0 57, V0 58, V0 59, V0 60, V0 61, V0 62, V0 63, V0 64, V0 65, V0 66, V0 67, V0 68, V0 69, V0 70]))] s.heap := hP
  obtain ⟨H, hH⟩ : ∃ H, H = s.heap := ⟨_, rfl⟩
  have hS : va_S A s.heap H [] := by rw [hH]; exact hS
  rw [← hH] at hP ⊢
  generalize ([] : List Loc) = locs at hS ⊢
  unfold fX11_drop at hf
  refine lv_aload_n hx hb dX11_drop_0 rfl (lv_at hl 0 rfl) ?_
  refine lv_iconst (v := 0) hx hb dX11_drop_1 (by decide +kernel) ?_
  refine va_put (D := (dC, dI)) (ci := 11) (v := .int 0) (ty := .int) (C := RX11) (T := TX11) (N := 71) hx hb hts inlX11 tyX11 tyX11_ok nmX11 hown hK hP hD hS 0 rfl rfl 0 (by decide) w0_ (fun _ h9 => h9) rfl (by decide +kernel) rfl rfl (Nat.le_of_ble_eq_true rfl) dX11_drop_2 (fun H locs hP hD hS => ?_)
  have hP : va_P (dC, dI) vwCl [(h0, .inr (11, [.int 0, V0 1, V0 2, V0 3, V0 4, V0 5, .int v0_size, V0 7, V0 8, V0 9, .int v0_wayState, V0 11, V0 12, V0 13, V0 14, V0 15, V0 16, V0 17, V0 18, V0 19, V0 20, V0 21, V0 22, V0 23, V0 24, V0 25, V0 26, V0 27, V0 28, V0 29, V0 30, V0 31, V0 32, V0 33, V0 34, V0 35, V0 36, V0 37, V0 38, V0 39, V0 40, V0 41, V0 42, V0 43, V0 44, V0 45, V0 46, V0 47, V0 48, V0 49, V0 50, V0 51, V0 52, V0 53, V0 54, V0 55, V0 56, V0 57, V0 58, V0 59, V0 60, V0 61, V0 62, V0 63, V0 64, V0 65, V0 66, V0 67, V0 68, V0 69, V0 70]))] H := hP
  have hD : va_D A [(h0, .inr (11, [.int 0, V0 1, V0 2, V0 3, V0 4, V0 5, .int v0_size, V0 7, V0 8, V0 9, .int v0_wayState, V0 11, V0 12, V0 13, V0 14, V0 15, V0 16, V0 17, V0 18, V0 19, V0 20, V0 21, V0 22, V0 23, V0 24, V0 25, V0 26, V0 27, V0 28, V0 29, V0 30, V0 31, V0 32, V0 33, V0 34, V0 35, V0 36, V0 37, V0 38, V0 39, V0 40, V0 41, V0 42, V0 43, V0 44, V0 45, V0 46, V0 47, V0 48, V0 49, V0 50, V0 51, V0 52, V0 53, V0 54, V0 55, V0 56, V0 57, V0 58, V0 59, V0 60, V0 61, V0 62, V0 63, V0 64, V0 65, V0 66, V0 67, V0 68, V0 69, V0 70]))] := hD
  refine lv_aload_n hx hb dX11_drop_5 rfl (lv_at hl 0 rfl) ?_
  refine va_get (D := (dC, dI)) (ci := 11) (v := .int v0_size) (C := RX11) (T := TX11) (N := 71) hx hb hts inlX11 hown hK hP 0 rfl rfl 6 (by decide) w1_ (fun _ h9 => h9) rfl dX11_drop_6 ?_
  refine lv_istore_n (lv' := [(1, .int v0_size), (0, .ref h0)]) hx hb dX11_drop_9 rfl hl (by decide) rfl (fun ls hl => ?_)
  refine lv_aload_n hx hb dX11_drop_10 rfl (lv_at hl 1 rfl) ?_
  refine lv_iconst (v := 0) hx hb dX11_drop_11 (by decide +kernel) ?_
  refine va_put (D := (dC, dI)) (ci := 11) (v := .int 0) (ty := .int) (C := RX11) (T := TX11) (N := 71) hx hb hts inlX11 tyX11 tyX11_ok nmX11 hown hK hP hD hS 0 rfl rfl 6 (by decide) w1_ (fun _ h9 => h9) rfl (by decide +kernel) rfl rfl (Nat.le_of_ble_eq_true rfl) dX11_drop_12 (fun H locs hP hD hS => ?_)
  have hP : va_P (dC, dI) vwCl [(h0, .inr (11, [.int 0, V0 1, V0 2, V0 3, V0 4, V0 5, .int 0, V0 7, V0 8, V0 9, .int v0_wayState, V0 11, V0 12, V0 13, V0 14, V0 15, V0 16, V0 17, V0 18, V0 19, V0 20, V0 21, V0 22, V0 23, V0 24, V0 25, V0 26, V0 27, V0 28, V0 29, V0 30, V0 31, V0 32, V0 33, V0 34, V0 35, V0 36, V0 37, V0 38, V0 39, V0 40, V0 41, V0 42, V0 43, V0 44, V0 45, V0 46, V0 47, V0 48, V0 49, V0 50, V0 51, V0 52, V0 53, V0 54, V0 55, V0 56, V0 57, V0 58, V0 59, V0 60, V0 61, V0 62, V0 63, V0 64, V0 65, V0 66, V0 67, V0 68, V0 69, V0 70]))] H := hP
  have hD : va_D A [(h0, .inr (11, [.int 0, V0 1, V0 2, V0 3, V0 4, V0 5, .int 0, V0 7, V0 8, V0 9, .int v0_wayState, V0 11, V0 12, V0 13, V0 14, V0 15, V0 16, V0 17, V0 18, V0 19, V0 20, V0 21, V0 22, V0 23, V0 24, V0 25, V0 26, V0 27, V0 28, V0 29, V0 30, V0 31, V0 32, V0 33, V0 34, V0 35, V0 36, V0 37, V0 38, V0 39, V0 40, V0 41, V0 42, V0 43, V0 44, V0 45, V0 46, V0 47, V0 48, V0 49, V0 50, V0 51, V0 52, V0 53, V0 54, V0 55, V0 56, V0 57, V0 58, V0 59, V0 60, V0 61, V0 62, V0 63, V0 64, V0 65, V0 66, V0 67, V0 68, V0 69, V0 70]))] := hD
  refine lv_aload_n hx hb dX11_drop_15 rfl (lv_at hl 1 rfl) ?_
  refine lv_iconst (v := (-1)) hx hb dX11_drop_16 (by decide +kernel) ?_
  refine va_put (D := (dC, dI)) (ci := 11) (v := .int (-1)) (ty := .int) (C := RX11) (T := TX11) (N := 71) hx hb hts inlX11 tyX11 tyX11_ok nmX11 hown hK hP hD hS 0 rfl rfl 10 (by decide) w2_ (fun _ h9 => h9) rfl (by decide +kernel) rfl rfl (Nat.le_of_ble_eq_true rfl) dX11_drop_17 (fun H locs hP hD hS => ?_)
  have hP : va_P (dC, dI) vwCl [(h0, .inr (11, [.int 0, V0 1, V0 2, V0 3, V0 4, V0 5, .int 0, V0 7, V0 8, V0 9, .int (-1), V0 11, V0 12, V0 13, V0 14, V0 15, V0 16, V0 17, V0 18, V0 19, V0 20, V0 21, V0 22, V0 23, V0 24, V0 25, V0 26, V0 27, V0 28, V0 29, V0 30, V0 31, V0 32, V0 33, V0 34, V0 35, V0 36, V0 37, V0 38, V0 39, V0 40, V0 41, V0 42, V0 43, V0 44, V0 45, V0 46, V0 47, V0 48, V0 49, V0 50, V0 51, V0 52, V0 53, V0 54, V0 55, V0 56, V0 57, V0 58, V0 59, V0 60, V0 61, V0 62, V0 63, V0 64, V0 65, V0 66, V0 67, V0 68, V0 69, V0 70]))] H := hP
  have hD : va_D A [(h0, .inr (11, [.int 0, V0 1, V0 2, V0 3, V0 4, V0 5, .int 0, V0 7, V0 8, V0 9, .int (-1), V0 11, V0 12, V0 13, V0 14, V0 15, V0 16, V0 17, V0 18, V0 19, V0 20, V0 21, V0 22, V0 23, V0 24, V0 25, V0 26, V0 27, V0 28, V0 29, V0 30, V0 31, V0 32, V0 33, V0 34, V0 35, V0 36, V0 37, V0 38, V0 39, V0 40, V0 41, V0 42, V0 43, V0 44, V0 45, V0 46, V0 47, V0 48, V0 49, V0 50, V0 51, V0 52, V0 53, V0 54, V0 55, V0 56, V0 57, V0 58, V0 59, V0 60, V0 61, V0 62, V0 63, V0 64, V0 65, V0 66, V0 67, V0 68, V0 69, V0 70]))] := hD
  refine lv_iload_n hx hb dX11_drop_20 rfl (lv_at hl 0 rfl) ?_
  have hf1 := Option.some.inj hf
  subst hf1
  have hP9 := hP.sub (ws' := [(h0, .inr (11, [.int 0, V0 1, V0 2, V0 3, V0 4, V0 5, .int 0, V0 7, V0 8, V0 9, .int (-1), V0 11, V0 12, V0 13, V0 14, V0 15, V0 16, V0 17, V0 18, V0 19, V0 20, V0 21, V0 22, V0 23, V0 24, V0 25, V0 26, V0 27, V0 28, V0 29, V0 30, V0 31, V0 32, V0 33, V0 34, V0 35, V0 36, V0 37, V0 38, V0 39, V0 40, V0 41, V0 42, V0 43, V0 44, V0 45, V0 46, V0 47, V0 48, V0 49, V0 50, V0 51, V0 52, V0 53, V0 54, V0 55, V0 56, V0 57, V0 58, V0 59, V0 60, V0 61, V0 62, V0 63, V0 64, V0 65, V0 66, V0 67, V0 68, V0 69, V0 70]))]) [0] rfl
  have hD9 := hD.sub (ws' := [(h0, .inr (11, [.int 0, V0 1, V0 2, V0 3, V0 4, V0 5, .int 0, V0 7, V0 8, V0 9, .int (-1), V0 11, V0 12, V0 13, V0 14, V0 15, V0 16, V0 17, V0 18, V0 19, V0 20, V0 21, V0 22, V0 23, V0 24, V0 25, V0 26, V0 27, V0 28, V0 29, V0 30, V0 31, V0 32, V0 33, V0 34, V0 35, V0 36, V0 37, V0 38, V0 39, V0 40, V0 41, V0 42, V0 43, V0 44, V0 45, V0 46, V0 47, V0 48, V0 49, V0 50, V0 51, V0 52, V0 53, V0 54, V0 55, V0 56, V0 57, V0 58, V0 59, V0 60, V0 61, V0 62, V0 63, V0 64, V0 65, V0 66, V0 67, V0 68, V0 69, V0 70]))]) [0] (by decide) rfl
  exact W.iret (v := v0_size) hx hb hr (fun t ht hW => ⟨⟨v0_size, (0, 0, (-1)), rfl, ⟨rfl, rfl⟩, by rw [ht]; exact hP9, va_K.moved hW.alike hK, hD9⟩, hS.F ht⟩) hS.2.2 dX11_drop_21
