/-! ===== the law 1: contracts over one side's whole world ===== -/
theorem Met_conseq {l : Launch} {y : MethodName} {ws : List Cond} {rm : Room} {Pc Pc' : Array Value → State → Prop} {Qc Qc' : Array Value → State → Outcome → State → Prop} {mc ms : Nat} {free free' : Addr → Prop} (hM : Met l y ws rm Pc Qc mc ms free)
    (hP : ∀ a s, Pc' a s → Pc a s) (hQ : ∀ a s o t, Pc' a s → Qc a s o t → Qc' a s o t) (hf : ∀ q, free q → free' q) : Met l y ws rm Pc' Qc' mc ms free' := by
  intro p e h1 h2 h3 s m args below h4 h5 h6 h7
  obtain ⟨n, o, a1, a2, a3, b1, L, b2, b3⟩ := hM p e h1 h2 h3 s m args below h4 h5 (hP _ _ h6) h7
  exact ⟨n, o, a1, a2, a3, hQ _ _ _ _ h6 b1, L, b2, fun q hq => hf _ (b3 q hq)⟩
abbrev TY : Type := List (ClassId × FieldType)
theorem at_left {a b : va_W} {k : Nat} {q : Nat × va_E} (h : a[k]? = some q) : (a ++ b)[k]? = some q := by
  rw [List.getElem?_append_left (List.getElem?_eq_some_iff.mp h).1]
  exact h
theorem va_P_left {D : va_G} {cl : List vw_C} {a b : va_W} {H : Heap} (h : va_P D cl (a ++ b) H) : va_P D cl a H := fun k q hk => h k q (at_left hk)
theorem va_D_left {A : Nat → Prop} {a b : va_W} (h : va_D A (a ++ b)) : va_D A a := ⟨fun i j x y hx hy e => h.1 i j x y (at_left hx) (at_left hy) e, fun k q hk => h.2 k q (at_left hk)⟩
theorem va_K_mem {D : va_G} {cl : List vw_C} {t t' : TY} {U : State} (h : va_K D cl t U) (hm : ∀ q ∈ t', q ∈ t) : va_K D cl t' U := ⟨h.1, fun k q hk => by
  obtain ⟨i, hi⟩ := List.getElem?_of_mem (hm q (List.mem_of_getElem? hk))
  exact h.2 i q hi⟩
theorem va_A_left {W pl wc : va_W} {sz : Nat} (isC : List Nat) (hC : isC.map (fun i => W[i]?) = wc.map some) : ∀ q, va_A wc sz q → va_A (W ++ pl) sz q := by
  intro q h
  rcases h with ⟨k, e, h⟩ | h
  · obtain ⟨j, -, h6⟩ := va_in_of isC hC h
    exact Or.inl ⟨j, e, at_left h6⟩
  · exact Or.inr h
/-- the contract of a method over one side's world: the answer is v, the new world and the new types are as Q says -/
def mC (D : va_G) (y : MethodName) (cd : Cond) (rm : Room) (av : List Value) (ws : va_W) (tys : TY) (v : Int32) (Q : va_W → TY → Prop) (mc ms : Nat) : Prop :=
  ∀ (l : Launch) (sz : Nat) (base : Nat × Nat × Nat), Met l y (cd :: wsL_law) rm (cPre D vwCl av sz base ws tys) (va_Qi (fun r (u : va_W × TY) => r = v ∧ Q u.1 u.2) (fun u t => va_P D vwCl u.1 t.heap ∧ va_K D vwCl u.2 t ∧ va_D (va_A ws sz) u.1) (va_A ws sz)) mc ms (va_A ws sz)
/-- the cells of a world at some places -/
def pk (W : va_W) (is : List Nat) : va_W := is.filterMap (fun i => W[i]?)
theorem lift_i {D : va_G} {l : Launch} {y : MethodName} {ws : List Cond} {rm : Room} {av : List Value} {sz : Nat} {base : Nat × Nat × Nat} {wc : va_W} {tc : TY} {S : Type} {post : Int32 → S → Prop} {w1 : S → va_W} {t1 : S → TY} {mc ms : Nat} {W wr pl : va_W} {tys tq : TY} {v : Int32} {Q : va_W → TY → Prop} {W' : S → va_W}
    (hM : Met l y ws rm (cPre D vwCl av sz base wc tc) (va_Qi post (fun u t => va_P D vwCl (w1 u) t.heap ∧ va_K D vwCl (t1 u) t ∧ va_D (va_A wc sz) (w1 u)) (va_A wc sz)) mc ms (va_A wc sz))
    (isC isR is2 ts : List Nat) (hC : isC.map (fun i => W[i]?) = wc.map some) (hR : isR.map (fun i => W[i]?) = wr.map some) (hnC : va_nd isC = true) (hnR : va_nd isR = true) (hdis : ∀ i ∈ isR, i ∉ isC) (ht : ts.filterMap (fun i => tq[i]?) = tc) (hT : ∀ q ∈ tq, q ∈ tys)
    (h2 : ∀ u, is2.map (fun i => (wr ++ w1 u)[i]?) = (W' u).map some) (hn2 : va_nd is2 = true) (hQ : ∀ r u, post r u → r = v ∧ Q (W' u ++ pl) (t1 u)) :
    Met l y ws rm (cPre D vwCl av sz base (W ++ pl) tys) (va_Qi (fun r (u : va_W × TY) => r = v ∧ Q u.1 u.2) (fun u t => va_P D vwCl u.1 t.heap ∧ va_K D vwCl u.2 t ∧ va_D (va_A (W ++ pl) sz) u.1) (va_A (W ++ pl) sz)) mc ms (va_A (W ++ pl) sz) := by
  refine Met_conseq hM ?_ ?_ (va_A_left isC hC)
  · rintro a s ⟨h1, h3, hP, hK, hD, hE⟩
    exact ⟨h1, h3, (va_P_left hP).sub isC (pl_of hC), (va_K_mem hK hT).sub ts ht, (va_D_left hD).sub isC hnC hC, hE⟩
  · rintro a s o t ⟨h1, h3, hP, hK, hD, hE⟩ ⟨⟨r, u, e1, e2, hP1, hK1, hD1⟩, hz, hk⟩
    subst h3
    obtain ⟨hP2, hD2⟩ := va_joinQ (wr := wr) hP (hD.self (sz := s.heap.size)) isC isR hC hR hnR hdis (H1 := t.heap) hk (va_A_left isC hC) hP1 hD1
    obtain ⟨q1, q2⟩ := hQ r u e2
    exact ⟨⟨r, (W' u ++ pl, t1 u), e1, ⟨q1, q2⟩, hP2.part is2 (h2 u), hK1, hD2.part is2 hn2 (h2 u)⟩, hz, fun q h3 h4 => hk q h3 (fun h5 => h4 (va_A_left isC hC q h5))⟩
/-- the parts of a world change places -/
theorem va_P_sw {D : va_G} {cl : List vw_C} {a b : va_W} {H : Heap} (h : va_P D cl (a ++ b) H) : va_P D cl (b ++ a) H := va_P.swap (a := []) h
theorem va_D_sw {A : Nat → Prop} {a b : va_W} (h : va_D A (a ++ b)) : va_D A (b ++ a) := va_D.swap (a := []) h
/-! the order of the cells is free -/
theorem va_P_perm {D : va_G} {cl : List vw_C} {ws ws2 : va_W} {H : Heap} (h : ws.Perm ws2) (hP : va_P D cl ws H) : va_P D cl ws2 H := by
  intro k q hq
  obtain ⟨i, hi⟩ := List.getElem?_of_mem (h.mem_iff.mpr (List.mem_of_getElem? hq))
  exact hP i q hi
theorem va_D_iff {A : Nat → Prop} {ws : va_W} : va_D A ws ↔ ws.Pairwise (fun p q => p.1 ≠ q.1) ∧ ∀ q ∈ ws, A q.1 := by
  constructor
  · intro h
    refine ⟨List.pairwise_iff_getElem.mpr (fun i j hi hj hij e => absurd (h.1 i j _ _ (List.getElem?_eq_getElem hi) (List.getElem?_eq_getElem hj) e) (by omega)), fun q hq => ?_⟩
    obtain ⟨k, hk⟩ := List.getElem?_of_mem hq
    exact h.2 k q hk
  · intro h
    refine ⟨fun i j p q hp hq e => ?_, fun k q hk => h.2 q (List.mem_of_getElem? hk)⟩
    obtain ⟨hi, rfl⟩ := List.getElem?_eq_some_iff.mp hp
    obtain ⟨hj, rfl⟩ := List.getElem?_eq_some_iff.mp hq
    rcases Nat.lt_trichotomy i j with h1 | h1 | h1
    · exact absurd e (List.pairwise_iff_getElem.mp h.1 i j hi hj h1)
    · exact h1
    · exact absurd e.symm (List.pairwise_iff_getElem.mp h.1 j i hj hi h1)
theorem va_D_perm {A : Nat → Prop} {ws ws2 : va_W} (h : ws.Perm ws2) (hD : va_D A ws) : va_D A ws2 := by
  obtain ⟨h1, h2⟩ := va_D_iff.mp hD
  exact va_D_iff.mpr ⟨(List.Perm.pairwise_iff (fun z w => z w.symm) h).mp h1, fun q hq => h2 q (h.mem_iff.mpr hq)⟩
theorem va_A_perm {ws ws2 : va_W} {sz : Nat} (h : ws.Perm ws2) : ∀ q, va_A ws sz q → va_A ws2 sz q := by
  intro q hq
  rcases hq with ⟨k, e, hk⟩ | hq
  · obtain ⟨i, hi⟩ := List.getElem?_of_mem (h.mem_iff.mp (List.mem_of_getElem? hk))
    exact Or.inl ⟨i, e, hi⟩
  · exact Or.inr hq
theorem mC_perm {D : va_G} {y : MethodName} {cd : Cond} {rm : Room} {av : List Value} {ws ws2 : va_W} {tys : TY} {v : Int32} {Q : va_W → TY → Prop} {mc ms : Nat} (hp : ws.Perm ws2) (h : mC D y cd rm av ws tys v Q mc ms) : mC D y cd rm av ws2 tys v Q mc ms := by
  intro l sz base
  refine Met_conseq (h l sz base) ?_ ?_ (va_A_perm hp)
  · rintro a s ⟨h1, h2, hP, hK, hD, hE⟩
    exact ⟨h1, h2, va_P_perm hp.symm hP, hK, va_D_perm hp.symm hD, hE⟩
  · rintro a s o t - ⟨⟨r, u, e1, e2, hP1, hK1, hD1⟩, hz, hk⟩
    exact ⟨⟨r, u, e1, e2, hP1, hK1, hD1.weaken (fun _ q _ h5 => va_A_perm hp q.1 h5)⟩, hz, fun q h3 h4 => hk q h3 (fun h5 => h4 (va_A_perm hp q h5))⟩
theorem rng_all (w : va_W) : (List.range w.length).map (fun i => w[i]?) = w.map some := by
  apply List.ext_getElem?
  intro i
  rw [List.getElem?_map, List.getElem?_map]
  by_cases h : i < w.length
  · rw [List.getElem?_range h, List.getElem?_eq_getElem h]
    exact congrArg some (List.getElem?_eq_getElem h)
  · rw [List.getElem?_eq_none (by rw [List.length_range]; omega), List.getElem?_eq_none (by omega)]
    rfl
section OWN3
variable {p : Program} {l : Launch} {e : Env} {R : Room} {s : State} {m : MethodId} {args : Array Value} {below : List Frame} {meth : Method} {c : Code} {H : Heap} {locs : List Loc} {cells slots : Nat} {Q : State → Prop}
variable {cc bytes : ByteArray} {pc : Nat} {ls : Array Slot} {st0 rest As : List Value} {D : va_G} {A : Nat → Prop} {b : Nat} {tys : TY} {wc wr : va_W} {y : MethodName} {rm : Room} {mc ms maxL n nL index : Nat} {base : Nat × Nat × Nat} {ret : Option FieldType} {own C : String} {Ts : List Cond}
/-- a call over one side's whole world, the other side's world wr untouched -/
theorem kQi {v : Int32} {Q0 : va_W → TY → Prop} {cd : Cond} (F : CallFix p m c cc nL s args Ts own) (hM : mC D y cd rm (.ref b :: As) wc tys v Q0 mc ms) (cw : CallW R s args own C index y bytes maxL ret (cd :: wsL_law) rm mc ms n)
    (hK : va_K D vwCl tys s) (hP : va_P D vwCl (wc ++ wr) H) (hD : va_D A (wc ++ wr)) (hS : va_S A s.heap H locs) (hA : ∀ q, s.heap.size ≤ q → A q) (hE : xE base s) (hAB : ∀ q, A q → base.1 ≤ q)
    {ci q0 : Nat} {q : vw_C} {fs : List Value} (hc : vwCl[ci]? = some q) (he : wc[q0]? = some (b, .inr (ci, fs))) (hq : q.1 = C)
    (hn : As.length = n) (hsz : ls.size = nL) (hst : st0 = As.reverse ++ .ref b :: rest) (hroom : (rest.map fun v => v.category).sum ≤ 8) (hdg : decode cc pc = .ok (.invokevirtual index, 3)) (hf : cells + mc ≤ R.cells ∧ slots + ms ≤ R.slots)
    (kk : ∀ (w1 : va_W) (t1 : TY) (H1 : Heap) (locs1 : List Loc), Q0 w1 t1 → va_K D vwCl (tys ++ t1) s → va_P D vwCl (w1 ++ wr) H1 → va_D A (w1 ++ wr) → va_S A s.heap H1 locs1 → W p l e R s m args below meth c H1 locs1 (cells + mc) (slots + ms) Q (F0 m (pc + 3) ls (.int v :: rest))) : W p l e R s m args below meth c H locs cells slots Q (F0 m pc ls st0) := by
  subst hq
  have hPc := va_P_left hP
  have hDc := va_D_left hD
  have hFc : ∀ q, va_A wc H.size q → A q := by
    intro q h
    rcases h with ⟨k, e2, h⟩ | h
    · exact hD.2 k _ (at_left h)
    · exact hA q (Nat.le_trans hS.1 h)
  refine va_calli (va_runV (As := As) (rest := rest) F (hM l H.size base) cw ⟨pre_blind, va_recv hK hPc hc he, fun U hU hW => ⟨rfl, by rw [hU], by rw [hU]; exact hPc, va_K.moved hW.alike hK, hDc.weaken (fun _ q _ h => hAB q.1 h), hE.move hS hAB hU hW⟩⟩ rfl hn hsz hst (lv_room (m := m) (pc := pc) (ls := ls) (rest := st0) hroom) hdg hf) hS (fun q _ h => hFc q h) hFc (fun r u t H1 locs1 ht1 hvm hw hB hz1 hk1 hS1 => ?_)
  obtain ⟨hP1, hK1, hD1⟩ := hB
  rw [ht1] at hP1
  obtain ⟨rfl, hQ⟩ := hw
  obtain ⟨hP2, hD2⟩ := va_joinQ (X := wc) (wr := []) (pl := wr) hP hD (List.range wc.length) [] (rng_all wc) rfl rfl (fun _ h => absurd h List.not_mem_nil) hk1 hFc hP1 hD1
  exact kk u.1 u.2 H1 locs1 hQ (hK.app (va_K.moved hvm.symm hK1)) hP2 hD2 hS1
end OWN3
