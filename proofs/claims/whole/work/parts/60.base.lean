/-! ===== my own rows: one word list for all methods; calls in one row ===== -/
theorem gT_all : wsL_law.all goodWord = true := by decide +kernel
theorem gT {b : Cond} (hb : b ∈ wsL_law) : GoodIn wsL_law (b :: wsL_law) := fun w hw => by
  have h1 : w ∈ wsL_law := (List.mem_cons.mp hw).elim (fun e => by rw [e]; exact hb) id
  exact ⟨h1, good_of_word (List.all_eq_true.mp gT_all w h1)⟩
theorem gTV {own C : String} {idx : Nat} {y : MethodName} {b : Cond} (h1 : Cond.methodLink own idx y ∈ wsL_law) (h2 : Cond.instanceMethod y ∈ wsL_law) (h3 : Cond.selects C y y ∈ wsL_law) (h4 : Cond.initialized C ∈ wsL_law) (hb : b ∈ wsL_law) : GoodIn wsL_law (wsV own idx C y (b :: wsL_law)) := fun w hw => by
  have h5 : w ∈ wsL_law := by
    unfold wsV at hw
    rcases List.mem_append.mp hw with h | h
    · simp only [List.mem_cons, List.not_mem_nil, or_false] at h
      rcases h with h | h | h | h <;> (rw [h]; assumption)
    · exact (gT hb w h).1
  exact ⟨h5, good_of_word (List.all_eq_true.mp gT_all w h5)⟩
theorem gTS {own : String} {idx : Nat} {y : MethodName} {b : Cond} (h1 : Cond.methodLink own idx y ∈ wsL_law) (h2 : Cond.static y ∈ wsL_law) (h4 : Cond.initialized y.cls ∈ wsL_law) (hb : b ∈ wsL_law) : GoodIn wsL_law (va_wsS own idx y (b :: wsL_law)) := fun w hw => by
  have h5 : w ∈ wsL_law := by
    unfold va_wsS at hw
    rcases List.mem_append.mp hw with h | h
    · simp only [List.mem_cons, List.not_mem_nil, or_false] at h
      rcases h with h | h | h <;> (rw [h]; assumption)
    · exact (gT hb w h).1
  exact ⟨h5, good_of_word (List.all_eq_true.mp gT_all w h5)⟩
/-- what the methods take as given of the launch: the nest's links, the two static rows, the one text; none of it lies at base or above -/
abbrev xA (base : Nat × Nat × Nat) : Nat → Prop := fun q => base.1 ≤ q
def xN (U : State) : Prop := va_Nw (.methodLinkNest RX7 76 yX10_sum "StackPrograms") U ∧ va_Nw (.methodLinkNest RX8 101 yX10_sum "StackPrograms") U ∧ va_Nw (.methodLinkNest RX10 9 yX6_init "StackPrograms") U ∧ va_Nw (.methodLinkNest RX10 18 yX4_init "StackPrograms") U ∧ va_Nw (.methodLinkNest RX10 25 yX3_init "StackPrograms") U
def xH (base : Nat × Nat × Nat) (U : State) (H : Heap) : Prop := (∃ tw : Nat, va_Z RX4 "WORDS" "[J" (.ref tw) (xA base) U H ∧ va_T .long tw 10 (fun j => .long (xWords.getD j 0)) (xA base) U H) ∧ (∃ tb : Nat, va_Z RX2 "SET_BITS" "[I" (.ref tb) (xA base) U H ∧ va_T .int tb 5 (fun j => .int (xBits.getD j 0)) (xA base) U H) ∧ va_Z RJ0 "COMPACT_STRINGS" "Z" (.int 1) (xA base) U H ∧ vk_R RX4 52 "01*=;,{}()!&|" base.2.1 U ∧ vk_S 1 [13] [xMarks] (fun _ => base.2.1) (fun _ => base.2.2) (xA base) U H
def xE (base : Nat × Nat × Nat) (U : State) : Prop := base.1 ≤ U.heap.size ∧ xN U ∧ xH base U U.heap
theorem xN.warm {s U : State} (hW : s.WarmedH U.vm) (h : xN s) : xN U := ⟨va_Nw.warmM hW h.1, va_Nw.warmM hW h.2.1, va_Nw.warmM hW h.2.2.1, va_Nw.warmM hW h.2.2.2.1, va_Nw.warmM hW h.2.2.2.2⟩
theorem xN.same {s U : State} (hv : s.vm = U.vm) (h : xN s) : xN U := ⟨va_Nw.same rfl hv h.1, va_Nw.same rfl hv h.2.1, va_Nw.same rfl hv h.2.2.1, va_Nw.same rfl hv h.2.2.2.1, va_Nw.same rfl hv h.2.2.2.2⟩
theorem xH.moved {base : Nat × Nat × Nat} {s U : State} {H H1 : Heap} (hvm : s.vm.Alike U.vm) (hr : ∀ sa, vk_R RX4 52 "01*=;,{}()!&|" sa s → vk_R RX4 52 "01*=;,{}()!&|" sa U) (hq : ∀ a : Nat, a < H.size → ¬ base.1 ≤ a → H1[a]? = H[a]?) (h : xH base s H) : xH base U H1 := by
  obtain ⟨⟨tw, a1, a2⟩, ⟨tb, b1, b2⟩, c1, d1, d2⟩ := h
  exact ⟨⟨tw, (a1.moved hvm).kept hq, (a2.moved hvm).kept hq⟩, ⟨tb, (b1.moved hvm).kept hq, (b2.moved hvm).kept hq⟩, (c1.moved hvm).kept hq, hr _ d1, (d2.moved hvm).kept hq⟩
theorem xE.move {base : Nat × Nat × Nat} {s U : State} {A : Nat → Prop} {H : Heap} {locs : List Loc} (h : xE base s) (hS : va_S A s.heap H locs) (hAB : ∀ q, A q → base.1 ≤ q) (hU : U.heap = H) (hW : s.WarmedH U.vm) : xE base U := by
  refine ⟨by rw [hU]; exact Nat.le_trans h.1 hS.1, h.2.1.warm hW, ?_⟩
  rw [hU]
  exact h.2.2.moved hW.alike (fun sa k => k.warm hW) (fun a h1 h2 => hS.2.1 a h1 (fun k => h2 (hAB a k)))
theorem xE.calling {base : Nat × Nat × Nat} {U : State} {g : JFrame} {mk : MethodId} {a : Array Value} (h : xE base U) : xE base (U.calling g mk a) :=
  ⟨h.1, h.2.1.same (U := U.calling g mk a) rfl, h.2.2.moved (U := U.calling g mk a) (Vm.Alike.refl U.vm) (fun sa k => k.same (U := U.calling g mk a) rfl) (fun _ _ _ => rfl)⟩
theorem bz_narB {x : Int32} (h : bz x = true) : narrow .byte (.int x) = .int x := by
  rcases bz_cases h with rfl | rfl <;> rfl
theorem zzi (cA : ClassId) (n : Nat) : vp_cell cA (n, .inl (fun _ => 0)) = arrV cA n (fun _ => defaultValue .int) := rfl
theorem zzb (cA : ClassId) (n : Nat) : vp_cell cA (n, .inl (fun _ => 0)) = arrV cA n (fun _ => defaultValue .boolean) := rfl
theorem zzl (cA : ClassId) (n : Nat) : vp_cell cA (n, .inr (.inl (fun _ => 0))) = arrV cA n (fun _ => defaultValue .long) := rfl
section OWN
variable {p : Program} {l : Launch} {e : Env} {R : Room} {s : State} {m : MethodId} {args : Array Value} {below : List Frame} {meth : Method} {c : Code} {H : Heap} {locs : List Loc} {cells slots : Nat} {Q : State → Prop}
/-- the goal by a name -/
theorem gl_intro {g : JFrame} (h : ∀ G : Nat → Nat → Heap → List Loc → JFrame → Prop, (∀ cs sl H locs fr, G cs sl H locs fr = W p l e R s m args below meth c H locs cs sl Q fr) → G cells slots H locs g) : W p l e R s m args below meth c H locs cells slots Q g := by
  have h1 := h (fun cs sl H locs fr => W p l e R s m args below meth c H locs cs sl Q fr) (fun _ _ _ _ _ => rfl)
  exact h1
variable {cc bytes : ByteArray} {pc : Nat} {ls : Array Slot} {st0 rest As : List Value} {D : va_G} {cl : List vw_C} {A : Nat → Prop} {b : Nat} {tys tc : List (ClassId × FieldType)} {ws wc wr : va_W} {y : MethodName} {wy : List Cond} {rm : Room} {mc ms maxL n nL index : Nat} {base : Nat × Nat × Nat} {ret : Option FieldType} {own C : String} {Ts : List Cond}
/-- a callee's start over its cells -/
abbrev cPre (D : va_G) (cl : List vw_C) (av : List Value) (sz : Nat) (base : Nat × Nat × Nat) (wc : va_W) (tc : List (ClassId × FieldType)) : Array Value → State → Prop := va_Pc av (fun U => U.heap.size = sz ∧ va_P D cl wc U.heap ∧ va_K D cl tc U ∧ va_D (xA base) wc ∧ xE base U)
abbrev cPost (D : va_G) (cl : List vw_C) (A : Nat → Prop) (w1 : va_W) (tc : List (ClassId × FieldType)) (t : State) : Prop := va_P D cl w1 t.heap ∧ va_K D cl tc t ∧ va_D A w1
theorem pre_blind {av : List Value} {sz : Nat} {base : Nat × Nat × Nat} : FrameBlind (cPre D cl av sz base wc tc) := fun a U g mk q => by
  obtain ⟨q0, q1, qP, qK, qD, qE⟩ := q
  exact ⟨q0, q1, qP, va_K.moved (u := U) (U := U.calling g mk a) (Vm.Alike.refl U.vm) qK, qD, qE.calling⟩
theorem pl_of {is : List Nat} {w' : va_W} (h : is.map (fun i => ws[i]?) = w'.map some) : is.filterMap (fun i => ws[i]?) = w' := by
  have h1 : is.filterMap (fun i => ws[i]?) = (is.map (fun i => ws[i]?)).filterMap id := by rw [List.filterMap_map]; rfl
  rw [h1, h, List.filterMap_map]
  simp
theorem kVi {S : Type} {post : Int32 → S → Prop} {w1 : S → va_W} (F : CallFix p m c cc nL s args Ts own)
    (hM : Met l y wy rm (cPre D cl (.ref b :: As) H.size base wc tc) (va_Qi post (fun u t => cPost D cl (va_A wc H.size) (w1 u) tc t) (va_A wc H.size)) mc ms (va_A wc H.size)) (cw : CallW R s args own C index y bytes maxL ret wy rm mc ms n)
    (hK : va_K D cl tys s) (hP : va_P D cl ws H) (hD : va_D A ws) (hS : va_S A s.heap H locs) (hA : ∀ q, s.heap.size ≤ q → A q) (hE : xE base s) (hAB : ∀ q, A q → base.1 ≤ q) (isC isR ts : List Nat)
    (hC : isC.map (fun i => ws[i]?) = wc.map some) (hR : isR.map (fun i => ws[i]?) = wr.map some) (hnC : va_nd isC = true) (hnR : va_nd isR = true) (hdis : ∀ i ∈ isR, i ∉ isC) (ht : ts.filterMap (fun i => tys[i]?) = tc)
    {ci q0 : Nat} {q : vw_C} {fs : List Value} (hc : cl[ci]? = some q) (he : wc[q0]? = some (b, .inr (ci, fs))) (hq : q.1 = C)
    (hn : As.length = n) (hsz : ls.size = nL) (hst : st0 = As.reverse ++ .ref b :: rest) (hroom : (rest.map fun v => v.category).sum ≤ 8) (hdg : decode cc pc = .ok (.invokevirtual index, 3)) (hf : cells + mc ≤ R.cells ∧ slots + ms ≤ R.slots)
    (kk : ∀ (r : Int32) (u : S) (H1 : Heap) (locs1 : List Loc), post r u → va_P D cl (wr ++ w1 u) H1 → va_D A (wr ++ w1 u) → va_S A s.heap H1 locs1 → W p l e R s m args below meth c H1 locs1 (cells + mc) (slots + ms) Q (F0 m (pc + 3) ls (.int r :: rest))) : W p l e R s m args below meth c H locs cells slots Q (F0 m pc ls st0) := by
  subst hq
  have hPc := hP.sub (ws' := wc) isC (pl_of hC)
  have hDc := hD.sub (ws' := wc) isC hnC hC
  have hKc := hK.sub (tys' := tc) ts ht
  have hFc := va_free (wc := wc) hD hS hA isC hC
  refine va_calli (va_runV (As := As) (rest := rest) F hM cw ⟨pre_blind, va_recv hKc hPc hc he, fun U hU hW => ⟨rfl, by rw [hU], by rw [hU]; exact hPc, va_K.moved hW.alike hKc, hDc.weaken (fun _ q _ h => hAB q.1 h), hE.move hS hAB hU hW⟩⟩ rfl hn hsz hst (lv_room (m := m) (pc := pc) (ls := ls) (rest := st0) hroom) hdg hf) hS (fun q _ h => hFc q h) hFc (fun r u t H1 locs1 ht1 hvm hw hB hz1 hk1 hS1 => ?_)
  obtain ⟨hP1, hK1, hD1⟩ := hB
  rw [ht1] at hP1
  obtain ⟨hP2, hD2⟩ := va_join (wr := wr) hP hD isC isR hC hR hnR hdis hk1 hFc hP1 hD1
  exact kk r u H1 locs1 hw hP2 hD2 hS1
theorem kVl {S : Type} {post : Int64 → S → Prop} {w1 : S → va_W} (F : CallFix p m c cc nL s args Ts own)
    (hM : Met l y wy rm (cPre D cl (.ref b :: As) H.size base wc tc) (va_Ql post (fun u t => cPost D cl (va_A wc H.size) (w1 u) tc t) (va_A wc H.size)) mc ms (va_A wc H.size)) (cw : CallW R s args own C index y bytes maxL ret wy rm mc ms n)
    (hK : va_K D cl tys s) (hP : va_P D cl ws H) (hD : va_D A ws) (hS : va_S A s.heap H locs) (hA : ∀ q, s.heap.size ≤ q → A q) (hE : xE base s) (hAB : ∀ q, A q → base.1 ≤ q) (isC isR ts : List Nat)
    (hC : isC.map (fun i => ws[i]?) = wc.map some) (hR : isR.map (fun i => ws[i]?) = wr.map some) (hnC : va_nd isC = true) (hnR : va_nd isR = true) (hdis : ∀ i ∈ isR, i ∉ isC) (ht : ts.filterMap (fun i => tys[i]?) = tc)
    {ci q0 : Nat} {q : vw_C} {fs : List Value} (hc : cl[ci]? = some q) (he : wc[q0]? = some (b, .inr (ci, fs))) (hq : q.1 = C)
    (hn : As.length = n) (hsz : ls.size = nL) (hst : st0 = As.reverse ++ .ref b :: rest) (hroom : (rest.map fun v => v.category).sum ≤ 8) (hdg : decode cc pc = .ok (.invokevirtual index, 3)) (hf : cells + mc ≤ R.cells ∧ slots + ms ≤ R.slots)
    (kk : ∀ (r : Int64) (u : S) (H1 : Heap) (locs1 : List Loc), post r u → va_P D cl (wr ++ w1 u) H1 → va_D A (wr ++ w1 u) → va_S A s.heap H1 locs1 → W p l e R s m args below meth c H1 locs1 (cells + mc) (slots + ms) Q (F0 m (pc + 3) ls (.long r :: rest))) : W p l e R s m args below meth c H locs cells slots Q (F0 m pc ls st0) := by
  subst hq
  have hPc := hP.sub (ws' := wc) isC (pl_of hC)
  have hDc := hD.sub (ws' := wc) isC hnC hC
  have hKc := hK.sub (tys' := tc) ts ht
  have hFc := va_free (wc := wc) hD hS hA isC hC
  refine va_calll (va_runV (As := As) (rest := rest) F hM cw ⟨pre_blind, va_recv hKc hPc hc he, fun U hU hW => ⟨rfl, by rw [hU], by rw [hU]; exact hPc, va_K.moved hW.alike hKc, hDc.weaken (fun _ q _ h => hAB q.1 h), hE.move hS hAB hU hW⟩⟩ rfl hn hsz hst (lv_room (m := m) (pc := pc) (ls := ls) (rest := st0) hroom) hdg hf) hS (fun q _ h => hFc q h) hFc (fun r u t H1 locs1 ht1 hvm hw hB hz1 hk1 hS1 => ?_)
  obtain ⟨hP1, hK1, hD1⟩ := hB
  rw [ht1] at hP1
  obtain ⟨hP2, hD2⟩ := va_join (wr := wr) hP hD isC isR hC hR hnR hdis hk1 hFc hP1 hD1
  exact kk r u H1 locs1 hw hP2 hD2 hS1
theorem kVv {S : Type} {post : S → Prop} {w1 : S → va_W} (F : CallFix p m c cc nL s args Ts own)
    (hM : Met l y wy rm (cPre D cl (.ref b :: As) H.size base wc tc) (va_Qv post (fun u t => cPost D cl (va_A wc H.size) (w1 u) tc t) (va_A wc H.size)) mc ms (va_A wc H.size)) (cw : CallW R s args own C index y bytes maxL ret wy rm mc ms n)
    (hK : va_K D cl tys s) (hP : va_P D cl ws H) (hD : va_D A ws) (hS : va_S A s.heap H locs) (hA : ∀ q, s.heap.size ≤ q → A q) (hE : xE base s) (hAB : ∀ q, A q → base.1 ≤ q) (isC isR ts : List Nat)
    (hC : isC.map (fun i => ws[i]?) = wc.map some) (hR : isR.map (fun i => ws[i]?) = wr.map some) (hnC : va_nd isC = true) (hnR : va_nd isR = true) (hdis : ∀ i ∈ isR, i ∉ isC) (ht : ts.filterMap (fun i => tys[i]?) = tc)
    {ci q0 : Nat} {q : vw_C} {fs : List Value} (hc : cl[ci]? = some q) (he : wc[q0]? = some (b, .inr (ci, fs))) (hq : q.1 = C)
    (hn : As.length = n) (hsz : ls.size = nL) (hst : st0 = As.reverse ++ .ref b :: rest) (hroom : (rest.map fun v => v.category).sum ≤ 8) (hdg : decode cc pc = .ok (.invokevirtual index, 3)) (hf : cells + mc ≤ R.cells ∧ slots + ms ≤ R.slots)
    (kk : ∀ (u : S) (H1 : Heap) (locs1 : List Loc), post u → va_P D cl (wr ++ w1 u) H1 → va_D A (wr ++ w1 u) → va_S A s.heap H1 locs1 → W p l e R s m args below meth c H1 locs1 (cells + mc) (slots + ms) Q (F0 m (pc + 3) ls rest)) : W p l e R s m args below meth c H locs cells slots Q (F0 m pc ls st0) := by
  subst hq
  have hPc := hP.sub (ws' := wc) isC (pl_of hC)
  have hDc := hD.sub (ws' := wc) isC hnC hC
  have hKc := hK.sub (tys' := tc) ts ht
  have hFc := va_free (wc := wc) hD hS hA isC hC
  refine va_callv (va_runV (As := As) (rest := rest) F hM cw ⟨pre_blind, va_recv hKc hPc hc he, fun U hU hW => ⟨rfl, by rw [hU], by rw [hU]; exact hPc, va_K.moved hW.alike hKc, hDc.weaken (fun _ q _ h => hAB q.1 h), hE.move hS hAB hU hW⟩⟩ rfl hn hsz hst (lv_room (m := m) (pc := pc) (ls := ls) (rest := st0) hroom) hdg hf) hS (fun q _ h => hFc q h) hFc (fun u t H1 locs1 ht1 hvm hw hB hz1 hk1 hS1 => ?_)
  obtain ⟨hP1, hK1, hD1⟩ := hB
  rw [ht1] at hP1
  obtain ⟨hP2, hD2⟩ := va_join (wr := wr) hP hD isC isR hC hR hnR hdis hk1 hFc hP1 hD1
  exact kk u H1 locs1 hw hP2 hD2 hS1
theorem kSi {S : Type} {post : Int32 → S → Prop} {w1 : S → va_W} (F : CallFix p m c cc nL s args Ts own)
    (hM : Met l y wy rm (cPre D cl As H.size base wc tc) (va_Qi post (fun u t => cPost D cl (va_A wc H.size) (w1 u) tc t) (va_A wc H.size)) mc ms (va_A wc H.size)) (cw : CallB R s args own index y bytes maxL ret wy rm mc ms n ∧ (Cond.static y).before args s = true)
    (hK : va_K D cl tys s) (hP : va_P D cl ws H) (hD : va_D A ws) (hS : va_S A s.heap H locs) (hA : ∀ q, s.heap.size ≤ q → A q) (hE : xE base s) (hAB : ∀ q, A q → base.1 ≤ q) (isC isR ts : List Nat)
    (hC : isC.map (fun i => ws[i]?) = wc.map some) (hR : isR.map (fun i => ws[i]?) = wr.map some) (hnC : va_nd isC = true) (hnR : va_nd isR = true) (hdis : ∀ i ∈ isR, i ∉ isC) (ht : ts.filterMap (fun i => tys[i]?) = tc)
    (hn : As.length = n) (hsz : ls.size = nL) (hst : st0 = As.reverse ++ rest) (hroom : (rest.map fun v => v.category).sum ≤ 8) (hdg : decode cc pc = .ok (.invokestatic index, 3)) (hf : cells + mc ≤ R.cells ∧ slots + ms ≤ R.slots)
    (kk : ∀ (r : Int32) (u : S) (H1 : Heap) (locs1 : List Loc), post r u → va_P D cl (wr ++ w1 u) H1 → va_D A (wr ++ w1 u) → va_S A s.heap H1 locs1 → W p l e R s m args below meth c H1 locs1 (cells + mc) (slots + ms) Q (F0 m (pc + 3) ls (.int r :: rest))) : W p l e R s m args below meth c H locs cells slots Q (F0 m pc ls st0) := by
  have hPc := hP.sub (ws' := wc) isC (pl_of hC)
  have hDc := hD.sub (ws' := wc) isC hnC hC
  have hKc := hK.sub (tys' := tc) ts ht
  have hFc := va_free (wc := wc) hD hS hA isC hC
  refine va_calli (va_runS (As := As) (rest := rest) F hM cw ⟨pre_blind, fun U hU hW => ⟨rfl, by rw [hU], by rw [hU]; exact hPc, va_K.moved hW.alike hKc, hDc.weaken (fun _ q _ h => hAB q.1 h), hE.move hS hAB hU hW⟩⟩ rfl hn hsz hst (lv_room (m := m) (pc := pc) (ls := ls) (rest := st0) hroom) hdg hf) hS (fun q _ h => hFc q h) hFc (fun r u t H1 locs1 ht1 hvm hw hB hz1 hk1 hS1 => ?_)
  obtain ⟨hP1, hK1, hD1⟩ := hB
  rw [ht1] at hP1
  obtain ⟨hP2, hD2⟩ := va_join (wr := wr) hP hD isC isR hC hR hnR hdis hk1 hFc hP1 hD1
  exact kk r u H1 locs1 hw hP2 hD2 hS1
theorem kSl {S : Type} {post : Int64 → S → Prop} {w1 : S → va_W} (F : CallFix p m c cc nL s args Ts own)
    (hM : Met l y wy rm (cPre D cl As H.size base wc tc) (va_Ql post (fun u t => cPost D cl (va_A wc H.size) (w1 u) tc t) (va_A wc H.size)) mc ms (va_A wc H.size)) (cw : CallB R s args own index y bytes maxL ret wy rm mc ms n ∧ (Cond.static y).before args s = true)
    (hK : va_K D cl tys s) (hP : va_P D cl ws H) (hD : va_D A ws) (hS : va_S A s.heap H locs) (hA : ∀ q, s.heap.size ≤ q → A q) (hE : xE base s) (hAB : ∀ q, A q → base.1 ≤ q) (isC isR ts : List Nat)
    (hC : isC.map (fun i => ws[i]?) = wc.map some) (hR : isR.map (fun i => ws[i]?) = wr.map some) (hnC : va_nd isC = true) (hnR : va_nd isR = true) (hdis : ∀ i ∈ isR, i ∉ isC) (ht : ts.filterMap (fun i => tys[i]?) = tc)
    (hn : As.length = n) (hsz : ls.size = nL) (hst : st0 = As.reverse ++ rest) (hroom : (rest.map fun v => v.category).sum ≤ 8) (hdg : decode cc pc = .ok (.invokestatic index, 3)) (hf : cells + mc ≤ R.cells ∧ slots + ms ≤ R.slots)
    (kk : ∀ (r : Int64) (u : S) (H1 : Heap) (locs1 : List Loc), post r u → va_P D cl (wr ++ w1 u) H1 → va_D A (wr ++ w1 u) → va_S A s.heap H1 locs1 → W p l e R s m args below meth c H1 locs1 (cells + mc) (slots + ms) Q (F0 m (pc + 3) ls (.long r :: rest))) : W p l e R s m args below meth c H locs cells slots Q (F0 m pc ls st0) := by
  have hPc := hP.sub (ws' := wc) isC (pl_of hC)
  have hDc := hD.sub (ws' := wc) isC hnC hC
  have hKc := hK.sub (tys' := tc) ts ht
  have hFc := va_free (wc := wc) hD hS hA isC hC
  refine va_calll (va_runS (As := As) (rest := rest) F hM cw ⟨pre_blind, fun U hU hW => ⟨rfl, by rw [hU], by rw [hU]; exact hPc, va_K.moved hW.alike hKc, hDc.weaken (fun _ q _ h => hAB q.1 h), hE.move hS hAB hU hW⟩⟩ rfl hn hsz hst (lv_room (m := m) (pc := pc) (ls := ls) (rest := st0) hroom) hdg hf) hS (fun q _ h => hFc q h) hFc (fun r u t H1 locs1 ht1 hvm hw hB hz1 hk1 hS1 => ?_)
  obtain ⟨hP1, hK1, hD1⟩ := hB
  rw [ht1] at hP1
  obtain ⟨hP2, hD2⟩ := va_join (wr := wr) hP hD isC isR hC hR hnR hdis hk1 hFc hP1 hD1
  exact kk r u H1 locs1 hw hP2 hD2 hS1
theorem kSv {S : Type} {post : S → Prop} {w1 : S → va_W} (F : CallFix p m c cc nL s args Ts own)
    (hM : Met l y wy rm (cPre D cl As H.size base wc tc) (va_Qv post (fun u t => cPost D cl (va_A wc H.size) (w1 u) tc t) (va_A wc H.size)) mc ms (va_A wc H.size)) (cw : CallB R s args own index y bytes maxL ret wy rm mc ms n ∧ (Cond.static y).before args s = true)
    (hK : va_K D cl tys s) (hP : va_P D cl ws H) (hD : va_D A ws) (hS : va_S A s.heap H locs) (hA : ∀ q, s.heap.size ≤ q → A q) (hE : xE base s) (hAB : ∀ q, A q → base.1 ≤ q) (isC isR ts : List Nat)
    (hC : isC.map (fun i => ws[i]?) = wc.map some) (hR : isR.map (fun i => ws[i]?) = wr.map some) (hnC : va_nd isC = true) (hnR : va_nd isR = true) (hdis : ∀ i ∈ isR, i ∉ isC) (ht : ts.filterMap (fun i => tys[i]?) = tc)
    (hn : As.length = n) (hsz : ls.size = nL) (hst : st0 = As.reverse ++ rest) (hroom : (rest.map fun v => v.category).sum ≤ 8) (hdg : decode cc pc = .ok (.invokestatic index, 3)) (hf : cells + mc ≤ R.cells ∧ slots + ms ≤ R.slots)
    (kk : ∀ (u : S) (H1 : Heap) (locs1 : List Loc), post u → va_P D cl (wr ++ w1 u) H1 → va_D A (wr ++ w1 u) → va_S A s.heap H1 locs1 → W p l e R s m args below meth c H1 locs1 (cells + mc) (slots + ms) Q (F0 m (pc + 3) ls rest)) : W p l e R s m args below meth c H locs cells slots Q (F0 m pc ls st0) := by
  have hPc := hP.sub (ws' := wc) isC (pl_of hC)
  have hDc := hD.sub (ws' := wc) isC hnC hC
  have hKc := hK.sub (tys' := tc) ts ht
  have hFc := va_free (wc := wc) hD hS hA isC hC
  refine va_callv (va_runS (As := As) (rest := rest) F hM cw ⟨pre_blind, fun U hU hW => ⟨rfl, by rw [hU], by rw [hU]; exact hPc, va_K.moved hW.alike hKc, hDc.weaken (fun _ q _ h => hAB q.1 h), hE.move hS hAB hU hW⟩⟩ rfl hn hsz hst (lv_room (m := m) (pc := pc) (ls := ls) (rest := st0) hroom) hdg hf) hS (fun q _ h => hFc q h) hFc (fun u t H1 locs1 ht1 hvm hw hB hz1 hk1 hS1 => ?_)
  obtain ⟨hP1, hK1, hD1⟩ := hB
  rw [ht1] at hP1
  obtain ⟨hP2, hD2⟩ := va_join (wr := wr) hP hD isC isR hC hR hnR hdis hk1 hFc hP1 hD1
  exact kk u H1 locs1 hw hP2 hD2 hS1
theorem kSNi {S : Type} {post : Int32 → S → Prop} {w1 : S → va_W} {host : String} (F : CallFix p m c cc nL s args Ts own)
    (hM : Met l y wy rm (cPre D cl As H.size base wc tc) (va_Qi post (fun u t => cPost D cl (va_A wc H.size) (w1 u) tc t) (va_A wc H.size)) mc ms (va_A wc H.size)) (cw : va_CN R s args own index y host bytes maxL ret wy rm mc ms n ∧ (Cond.static y).before args s = true ∧ True)
    (hK : va_K D cl tys s) (hP : va_P D cl ws H) (hD : va_D A ws) (hS : va_S A s.heap H locs) (hA : ∀ q, s.heap.size ≤ q → A q) (hE : xE base s) (hAB : ∀ q, A q → base.1 ≤ q) (isC isR ts : List Nat)
    (hC : isC.map (fun i => ws[i]?) = wc.map some) (hR : isR.map (fun i => ws[i]?) = wr.map some) (hnC : va_nd isC = true) (hnR : va_nd isR = true) (hdis : ∀ i ∈ isR, i ∉ isC) (ht : ts.filterMap (fun i => tys[i]?) = tc)
    (hn : As.length = n) (hsz : ls.size = nL) (hst : st0 = As.reverse ++ rest) (hroom : (rest.map fun v => v.category).sum ≤ 8) (hdg : decode cc pc = .ok (.invokestatic index, 3)) (hf : cells + mc ≤ R.cells ∧ slots + ms ≤ R.slots)
    (kk : ∀ (r : Int32) (u : S) (H1 : Heap) (locs1 : List Loc), post r u → va_P D cl (wr ++ w1 u) H1 → va_D A (wr ++ w1 u) → va_S A s.heap H1 locs1 → W p l e R s m args below meth c H1 locs1 (cells + mc) (slots + ms) Q (F0 m (pc + 3) ls (.int r :: rest))) : W p l e R s m args below meth c H locs cells slots Q (F0 m pc ls st0) := by
  have hPc := hP.sub (ws' := wc) isC (pl_of hC)
  have hDc := hD.sub (ws' := wc) isC hnC hC
  have hKc := hK.sub (tys' := tc) ts ht
  have hFc := va_free (wc := wc) hD hS hA isC hC
  refine va_calli (va_runSN (As := As) (rest := rest) F hM cw ⟨pre_blind, fun U hU hW => ⟨rfl, by rw [hU], by rw [hU]; exact hPc, va_K.moved hW.alike hKc, hDc.weaken (fun _ q _ h => hAB q.1 h), hE.move hS hAB hU hW⟩⟩ rfl hn hsz hst (lv_room (m := m) (pc := pc) (ls := ls) (rest := st0) hroom) hdg hf) hS (fun q _ h => hFc q h) hFc (fun r u t H1 locs1 ht1 hvm hw hB hz1 hk1 hS1 => ?_)
  obtain ⟨hP1, hK1, hD1⟩ := hB
  rw [ht1] at hP1
  obtain ⟨hP2, hD2⟩ := va_join (wr := wr) hP hD isC isR hC hR hnR hdis hk1 hFc hP1 hD1
  exact kk r u H1 locs1 hw hP2 hD2 hS1
theorem kTi {S : Type} {post : Int32 → S → Prop} {w1 : S → va_W} (F : CallFix p m c cc nL s args Ts own)
    (hM : Met l y wy rm (cPre D cl (.ref b :: As) H.size base wc tc) (va_Qi post (fun u t => cPost D cl (va_A wc H.size) (w1 u) tc t) (va_A wc H.size)) mc ms (va_A wc H.size)) (cw : CallW R s args own C index y bytes maxL ret wy rm mc ms n)
    (hK : va_K D cl tys s) (hP : va_P D cl ws H) (hD : va_D A ws) (hS : va_S A s.heap H locs) (hA : ∀ q, s.heap.size ≤ q → A q) (hE : xE base s) (hAB : ∀ q, A q → base.1 ≤ q) (isC isR ts : List Nat)
    (hC : isC.map (fun i => ws[i]?) = wc.map some) (hR : isR.map (fun i => ws[i]?) = wr.map some) (hnC : va_nd isC = true) (hnR : va_nd isR = true) (hdis : ∀ i ∈ isR, i ∉ isC) (ht : ts.filterMap (fun i => tys[i]?) = tc)
    (hrc : ∃ cell : Cell, H[b]? = some cell ∧ cell.vm.isStatics = false ∧ s.vm.findClass C = some cell.cls)
    (hn : As.length = n) (hsz : ls.size = nL) (hst : st0 = As.reverse ++ .ref b :: rest) (hroom : (rest.map fun v => v.category).sum ≤ 8) (hdg : decode cc pc = .ok (.invokevirtual index, 3)) (hf : cells + mc ≤ R.cells ∧ slots + ms ≤ R.slots)
    (kk : ∀ (r : Int32) (u : S) (H1 : Heap) (locs1 : List Loc), post r u → va_P D cl (wr ++ w1 u) H1 → va_D A (wr ++ w1 u) → va_S A s.heap H1 locs1 → W p l e R s m args below meth c H1 locs1 (cells + mc) (slots + ms) Q (F0 m (pc + 3) ls (.int r :: rest))) : W p l e R s m args below meth c H locs cells slots Q (F0 m pc ls st0) := by
  have hPc := hP.sub (ws' := wc) isC (pl_of hC)
  have hDc := hD.sub (ws' := wc) isC hnC hC
  have hKc := hK.sub (tys' := tc) ts ht
  have hFc := va_free (wc := wc) hD hS hA isC hC
  refine va_calli (va_runV (As := As) (rest := rest) F hM cw ⟨pre_blind, hrc, fun U hU hW => ⟨rfl, by rw [hU], by rw [hU]; exact hPc, va_K.moved hW.alike hKc, hDc.weaken (fun _ q _ h => hAB q.1 h), hE.move hS hAB hU hW⟩⟩ rfl hn hsz hst (lv_room (m := m) (pc := pc) (ls := ls) (rest := st0) hroom) hdg hf) hS (fun q _ h => hFc q h) hFc (fun r u t H1 locs1 ht1 hvm hw hB hz1 hk1 hS1 => ?_)
  obtain ⟨hP1, hK1, hD1⟩ := hB
  rw [ht1] at hP1
  obtain ⟨hP2, hD2⟩ := va_join (wr := wr) hP hD isC isR hC hR hnR hdis hk1 hFc hP1 hD1
  exact kk r u H1 locs1 hw hP2 hD2 hS1
theorem kI {S : Type} {post : S → Prop} {w1 : S → va_W} {t1 : S → List (ClassId × FieldType)} (F : CallFix p m c cc nL s args Ts own)
    (hM : Met l y wy rm (cPre D cl (.ref b :: As) H.size base wc tc) (va_Qv post (fun u t => va_P D cl (w1 u) t.heap ∧ va_K D cl (t1 u) t ∧ va_D (va_A wc H.size) (w1 u)) (va_A wc H.size)) mc ms (va_A wc H.size)) (cw : CallB R s args own index y bytes maxL none wy rm mc ms n ∧ y.name = "<init>" ∧ (Cond.instanceMethod y).before args s = true)
    (hK : va_K D cl tys s) (hP : va_P D cl ws H) (hD : va_D A ws) (hS : va_S A s.heap H locs) (hA : ∀ q, s.heap.size ≤ q → A q) (hE : xE base s) (hAB : ∀ q, A q → base.1 ≤ q) (isC isR ts : List Nat)
    (hC : isC.map (fun i => ws[i]?) = wc.map some) (hR : isR.map (fun i => ws[i]?) = wr.map some) (hnC : va_nd isC = true) (hnR : va_nd isR = true) (hdis : ∀ i ∈ isR, i ∉ isC) (ht : ts.filterMap (fun i => tys[i]?) = tc)
    (hn : As.length = n) (hsz : ls.size = nL) (hst : st0 = As.reverse ++ .ref b :: rest) (hroom : (rest.map fun v => v.category).sum ≤ 8) (hdg : decode cc pc = .ok (.invokespecial index, 3)) (hf : cells + mc ≤ R.cells ∧ slots + ms ≤ R.slots)
    (kk : ∀ (u : S) (H1 : Heap) (locs1 : List Loc), post u → va_K D cl (tys ++ t1 u) s → va_P D cl (wr ++ w1 u) H1 → va_D A (wr ++ w1 u) → va_S A s.heap H1 locs1 → W p l e R s m args below meth c H1 locs1 (cells + mc) (slots + ms) Q (F0 m (pc + 3) ls rest)) : W p l e R s m args below meth c H locs cells slots Q (F0 m pc ls st0) := by
  have hPc := hP.sub (ws' := wc) isC (pl_of hC)
  have hDc := hD.sub (ws' := wc) isC hnC hC
  have hKc := hK.sub (tys' := tc) ts ht
  have hFc := va_free (wc := wc) hD hS hA isC hC
  refine va_callv (va_runI (As := As) (rest := rest) F hM cw ⟨pre_blind, fun U hU hW => ⟨rfl, by rw [hU], by rw [hU]; exact hPc, va_K.moved hW.alike hKc, hDc.weaken (fun _ q _ h => hAB q.1 h), hE.move hS hAB hU hW⟩⟩ rfl hn hsz hst (lv_room (m := m) (pc := pc) (ls := ls) (rest := st0) hroom) hdg hf) hS (fun q _ h => hFc q h) hFc (fun u t H1 locs1 ht1 hvm hw hB hz1 hk1 hS1 => ?_)
  obtain ⟨hP1, hK1, hD1⟩ := hB
  rw [ht1] at hP1
  obtain ⟨hP2, hD2⟩ := va_join (wr := wr) hP hD isC isR hC hR hnR hdis hk1 hFc hP1 hD1
  exact kk u H1 locs1 hw (hK.app (va_K.moved hvm.symm hK1)) hP2 hD2 hS1
theorem kIN {S : Type} {post : S → Prop} {w1 : S → va_W} {t1 : S → List (ClassId × FieldType)} {host : String} (F : CallFix p m c cc nL s args Ts own)
    (hM : Met l y wy rm (cPre D cl (.ref b :: As) H.size base wc tc) (va_Qv post (fun u t => va_P D cl (w1 u) t.heap ∧ va_K D cl (t1 u) t ∧ va_D (va_A wc H.size) (w1 u)) (va_A wc H.size)) mc ms (va_A wc H.size)) (cw : va_CN R s args own index y host bytes maxL none wy rm mc ms n ∧ y.name = "<init>" ∧ (Cond.instanceMethod y).before args s = true)
    (hK : va_K D cl tys s) (hP : va_P D cl ws H) (hD : va_D A ws) (hS : va_S A s.heap H locs) (hA : ∀ q, s.heap.size ≤ q → A q) (hE : xE base s) (hAB : ∀ q, A q → base.1 ≤ q) (isC isR ts : List Nat)
    (hC : isC.map (fun i => ws[i]?) = wc.map some) (hR : isR.map (fun i => ws[i]?) = wr.map some) (hnC : va_nd isC = true) (hnR : va_nd isR = true) (hdis : ∀ i ∈ isR, i ∉ isC) (ht : ts.filterMap (fun i => tys[i]?) = tc)
    (hn : As.length = n) (hsz : ls.size = nL) (hst : st0 = As.reverse ++ .ref b :: rest) (hroom : (rest.map fun v => v.category).sum ≤ 8) (hdg : decode cc pc = .ok (.invokespecial index, 3)) (hf : cells + mc ≤ R.cells ∧ slots + ms ≤ R.slots)
    (kk : ∀ (u : S) (H1 : Heap) (locs1 : List Loc), post u → va_K D cl (tys ++ t1 u) s → va_P D cl (wr ++ w1 u) H1 → va_D A (wr ++ w1 u) → va_S A s.heap H1 locs1 → W p l e R s m args below meth c H1 locs1 (cells + mc) (slots + ms) Q (F0 m (pc + 3) ls rest)) : W p l e R s m args below meth c H locs cells slots Q (F0 m pc ls st0) := by
  have hPc := hP.sub (ws' := wc) isC (pl_of hC)
  have hDc := hD.sub (ws' := wc) isC hnC hC
  have hKc := hK.sub (tys' := tc) ts ht
  have hFc := va_free (wc := wc) hD hS hA isC hC
  refine va_callv (va_runIN (As := As) (rest := rest) F hM cw ⟨pre_blind, fun U hU hW => ⟨rfl, by rw [hU], by rw [hU]; exact hPc, va_K.moved hW.alike hKc, hDc.weaken (fun _ q _ h => hAB q.1 h), hE.move hS hAB hU hW⟩⟩ rfl hn hsz hst (lv_room (m := m) (pc := pc) (ls := ls) (rest := st0) hroom) hdg hf) hS (fun q _ h => hFc q h) hFc (fun u t H1 locs1 ht1 hvm hw hB hz1 hk1 hS1 => ?_)
  obtain ⟨hP1, hK1, hD1⟩ := hB
  rw [ht1] at hP1
  obtain ⟨hP2, hD2⟩ := va_join (wr := wr) hP hD isC isR hC hR hnR hdis hk1 hFc hP1 hD1
  exact kk u H1 locs1 hw (hK.app (va_K.moved hvm.symm hK1)) hP2 hD2 hS1
end OWN
