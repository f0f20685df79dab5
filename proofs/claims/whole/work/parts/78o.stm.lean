/-! ===== pure rows 91: statements: the reference's simple statements ===== -/
abbrev TsO : Type := Int32 × Int32 × Int32 × Int32 × Int64 × Int32 × Int32 × Int32 × Int32 × Int32 × Int32 × Int32 × Int32 × MT
noncomputable def rTs (pp sz fr to tk : Int32) (nm0 : Int64) (wr wa gl st cd bl op os dd : Int32) (c1 : Nat → Int64) (c2 : Nat → Int32) (c3 : Nat → Int64) (m : Nat → Int32) (M : MT) : Option TsO := fX11_takeStatement pp sz fr to tk nm0 wr wa gl st cd bl op os dd c1 c2 c3 M.1 M.2.1 M.2.2.1 M.2.2.2.1 M.2.2.2.2.1 M.2.2.2.2.2.1 M.2.2.2.2.2.2.1 M.2.2.2.2.2.2.2.1 M.2.2.2.2.2.2.2.2.1 M.2.2.2.2.2.2.2.2.2.1 M.2.2.2.2.2.2.2.2.2.2.1 M.2.2.2.2.2.2.2.2.2.2.2.1 M.2.2.2.2.2.2.2.2.2.2.2.2.1 m M.2.2.2.2.2.2.2.2.2.2.2.2.2.1 M.2.2.2.2.2.2.2.2.2.2.2.2.2.2.1 M.2.2.2.2.2.2.2.2.2.2.2.2.2.2.2.1 M.2.2.2.2.2.2.2.2.2.2.2.2.2.2.2.2.1 M.2.2.2.2.2.2.2.2.2.2.2.2.2.2.2.2.2
/-- a fault, told at once or when the loop looks at the broken token -/
def rBd (e : Nat × Nat) (z fr tk wr wa op : Int32) : Prop := (z = 0 ∧ wr = nI e.1 ∧ wa = nI e.2 ∧ ¬ wr = 0) ∨ (e.1 = 1 ∧ z = 1 ∧ fr = nI e.2 ∧ tk = 4 ∧ wr = 0 ∧ ∃ d2, 1 ≤ d2 ∧ d2 ≤ 11 ∧ op = nI d2)
def rTo (B : Nat → Nat) (N p d b bl n k j : Nat) (Q : List Nat) (M : MT) (wa : Int32) (r : Rt) (z fr2 to2 tk2 : Int32) (nm2 : Int64) (wr2 wa2 st2 cd2 bl2 op2 : Int32) (U : MT) : Prop := match r with
  | .error e => rBd e z fr2 tk2 wr2 wa2 op2
  | .ok q => z = 1 ∧ rsO B N q.2.1 fr2 to2 tk2 nm2 ∧ wr2 = 0 ∧ wa2 = wa ∧ op2 = nI d ∧ ∃ (Q2 : List Nat) (bn : Nat), st2 = nI q.1 ∧ cd2 = nI Q2.length ∧ bl2 = nI bn ∧ rPost B N p d b bl n k j true Q M q Q2 bn U
theorem one_post {B : Nat → Nat} {N p d b bl n k j kd f par v ca f2 : Nat} {Q Q2 L : List Nat} {M : MT} {sb inn fs ca7 ce8 tg ops cd15 cP : Nat → Int32} {cN : Nat → Int64} (hpre : rPre p d b bl par f n k j Q M) (hn : n < 40)
    (hsb : ∀ s, sb s = if k = 3 ∧ s = j then nI n else if s = n then -1 else M.2.2.2.2.1 s) (hinn : ∀ x, inn x = if k = 4 ∧ x = 2 * j + 1 then nI n else if k = 5 ∧ x = 2 * j then nI n else if x = 2 * n ∨ x = 2 * n + 1 then -1 else M.2.2.2.2.2.2.1 x) (hfs : ∀ q, fs q = if k = 8 ∧ q = j then nI n else M.2.2.2.2.2.2.2.2.2.2.2.1 q)
    (h7 : ∀ s, s < n → ca7 s = M.2.2.2.2.2.2.2.1 s) (h8 : ∀ s, s < n → ce8 s = M.2.2.2.2.2.2.2.2.1 s) (h13 : ∀ s, s < n → tg s = M.2.2.2.2.2.2.2.2.2.2.2.2.2.1 s) (h16 : ∀ s, s < n → cN s = M.2.2.2.2.2.2.2.2.2.2.2.2.2.2.2.2.1 s) (h17 : ∀ s, s < n → cP s = M.2.2.2.2.2.2.2.2.2.2.2.2.2.2.2.2.2 s) (hcode : codeIs cd15 Q2) (hQ : ∃ T, Q2 = Q ++ T) (hlen : Q2.length ≤ f2)
    (hseg : kd < 3 ∨ kd = 4 ∨ kd = 5 → ∃ A T, Q2 = A ++ L ++ T ∧ ca7 n = nI A.length ∧ ce8 n = nI (A ++ L).length) (htg : kd = 0 → tg n = vMi v) (hcall : kd = 3 → cN n = nM (wj B ca (tL B N ca)) ∧ cP n = nI ca) :
    rPost B N p d b bl n k j true Q M (n + 1, f2, fun a _ => rwP kd f par 40 40 v ca a, fun _ => L) Q2 bl (M.1, upd M.2.1 n (nI kd), upd M.2.2.1 n (nI f), upd M.2.2.2.1 n (nI p), sb, upd M.2.2.2.2.2.1 n (nI b), inn, ca7, ce8, upd M.2.2.2.2.2.2.2.2.2.1 b (nI n), M.2.2.2.2.2.2.2.2.2.2.1, fs, M.2.2.2.2.2.2.2.2.2.2.2.2.1, tg, ops, cd15, cN, cP) := by
  obtain ⟨p1, p2, p3, p4, p5, p6, p7, p8, p9⟩ := hpre
  have hjn : k = 3 ∨ k = 4 ∨ k = 5 → j < n := by
    intro z
    rcases p8 with ⟨g1, -⟩ | ⟨-, g2, -⟩ | ⟨-, g2, -⟩ | ⟨-, g2, -⟩
    · omega
    · exact g2
    · exact g2
    · exact g2
  refine ⟨hcode, hQ, hlen, Nat.le_refl _, by show bl + 2 * n ≤ bl + 2 * (n + 1); omega, ⟨fun s hs => ?_, fun q => ?_⟩, ⟨fun x hx => ⟨rfl, rfl, fun hxb => upd_ne hxb⟩, fun i hi => rfl⟩, fun _ => upd_at _ _ _, fun s s1 s2 => ?_⟩
  · have hne : s ≠ n := Nat.ne_of_lt hs
    refine ⟨upd_ne hne, upd_ne hne, upd_ne hne, upd_ne hne, h7 s hs, h8 s hs, h13 s hs, h16 s hs, h17 s hs, ?_, ?_, ?_⟩
    · dsimp only
      rw [hsb]
      by_cases hk : k = 3 ∧ s = j
      · rw [if_pos hk, if_pos ⟨hk.1, hk.2, Nat.lt_succ_self n⟩]
      · rw [if_neg hk, if_neg hne, if_neg (fun z => hk ⟨z.1, z.2.1⟩)]
    · dsimp only
      rw [hinn, if_neg (fun z => absurd z.2 (by omega))]
      by_cases hk : k = 5 ∧ s = j
      · rw [if_pos ⟨hk.1, by omega⟩, if_pos ⟨hk.1, hk.2, Nat.lt_succ_self n⟩]
      · rw [if_neg (fun z => hk ⟨z.1, by omega⟩), if_neg (fun z => absurd z (by omega)), if_neg (fun z => hk ⟨z.1, z.2.1⟩)]
    · dsimp only
      rw [hinn]
      by_cases hk : k = 4 ∧ s = j
      · rw [if_pos ⟨hk.1, by omega⟩, if_pos ⟨hk.1, hk.2, Nat.lt_succ_self n⟩]
      · rw [if_neg (fun z => hk ⟨z.1, by omega⟩), if_neg (fun z => absurd z.2 (by omega)), if_neg (fun z => absurd z (by omega)), if_neg (fun z => hk ⟨z.1, z.2.1⟩)]
  · dsimp only
    rw [hfs]
    by_cases hk : k = 8 ∧ q = j
    · rw [if_pos hk, if_pos ⟨hk.1, hk.2, Nat.lt_succ_self n⟩]
    · rw [if_neg hk, if_neg (fun z => hk ⟨z.1, z.2.1⟩)]
  · have hsn : s = n := Nat.le_antisymm (Nat.lt_succ_iff.mp s2) s1
    subst hsn
    refine ⟨upd_at _ _ _, upd_at _ _ _, upd_at _ _ _, ?_, ?_, ?_, hseg, htg, hcall, b, p3, upd_at _ _ _, ?_⟩
    · dsimp only
      rw [hsb, if_neg (fun z => absurd (hjn (Or.inl z.1)) (by omega)), if_pos rfl]
      exact (by decide : (-1 : Int32) = pM 40)
    · dsimp only
      rw [hinn, if_neg (fun z => absurd z.2 (by omega)), if_neg (fun z => absurd (hjn (Or.inr (Or.inr z.1))) (by omega)), if_pos (Or.inl rfl)]
      exact (by decide : (-1 : Int32) = pM 40)
    · dsimp only
      rw [hinn, if_neg (fun z => absurd (hjn (Or.inr (Or.inl z.1))) (by omega)), if_neg (fun z => absurd z.2 (by omega)), if_pos (Or.inr rfl)]
      exact (by decide : (-1 : Int32) = pM 40)
    · rcases p9 with ⟨g1, g2⟩ | ⟨g1, g2, g3⟩
      · exact Or.inl ⟨g1, g2⟩
      · have e : upd M.2.1 s (nI kd) par = M.2.1 par := upd_ne (show par ≠ s by omega)
        refine Or.inr ⟨g1, g2, ?_⟩
        rcases g3 with g3 | g3
        · exact Or.inl ⟨e.trans g3.1, g3.2⟩
        · exact Or.inr ⟨e.trans g3.1, g3.2⟩
theorem vMi_m {r : Nat} (h : r < 5) : ¬ vMi r = -1 := by
  unfold vMi
  rw [if_neg (by omega)]
  exact nI_m1 (by by_cases q : r < 3 <;> simp only [q, if_true, if_false] <;> omega)
/-- the beginning of a statement -/
theorem r_tsU {B : Nat → Nat} {N : Nat} {c m : Nat → Int32} (h : txt B N c m) {VN : Nat → List Nat} {g l p d b bl par f n k j : Nat} {cg cn : Nat → Int64} {cl : Nat → Int32} {Q : List Nat} {M : MT} {fr to tk : Int32} {nm0 : Int64} (hv : vNm VN g l) (hm : vM VN g l p cg cl cn) (hp : p < 6) (hf : f ≤ N) (hs : rsO B N f fr to tk nm0) (hpre : rPre p d b bl par f n k j Q M) (wa os dd : Int32) (hK : ¬ tK B N f = 257) (hn : n < 40) (hb : bgS (tK B N f)) (hA : tK B N f = 258 → ¬ vIx VN g l (wj B f (tL B N f)) = 5) : rTs (nI p) (nI N) fr to tk nm0 0 wa (nI g) (nI n) (nI Q.length) (nI bl) (nI d) os dd cg cl cn m M = fX11_takeStatement_p87 (nI N) (nI g) cg cl cn m (nI p) (nI (kdT (tK B N f))) (if tK B N f = 258 then vMi (vIx VN g l (wj B f (tL B N f))) else -1) (nI f) to (nI (kM (tK B N f))) nm0 0 wa (nI n) (nI Q.length) (nI bl) (nI d) os dd M.1 M.2.1 M.2.2.1 M.2.2.2.1 M.2.2.2.2.1 M.2.2.2.2.2.1 M.2.2.2.2.2.2.1 M.2.2.2.2.2.2.2.1 M.2.2.2.2.2.2.2.2.1 M.2.2.2.2.2.2.2.2.2.1 M.2.2.2.2.2.2.2.2.2.2.1 M.2.2.2.2.2.2.2.2.2.2.2.1 M.2.2.2.2.2.2.2.2.2.2.2.2.1 M.2.2.2.2.2.2.2.2.2.2.2.2.2.1 M.2.2.2.2.2.2.2.2.2.2.2.2.2.2.1 M.2.2.2.2.2.2.2.2.2.2.2.2.2.2.2.1 M.2.2.2.2.2.2.2.2.2.2.2.2.2.2.2.2.1 M.2.2.2.2.2.2.2.2.2.2.2.2.2.2.2.2.2 := by
  obtain ⟨h1, h2, h3, h4⟩ := hs
  subst h1 h3
  have hle := tK_le B N f
  unfold rTs fX11_takeStatement fX11_takeStatement_p16 fX11_takeStatement_p70
  have n40 : ¬ nI n = 40 := fun z => absurd ((nI_eq (a := n) (b := 40) (by omega) (by decide)).mp z) (by omega)
  have nk : ¬ nI (kdT (tK B N f)) = -1 := nI_m1 (by unfold kdT; by_cases q : tK B N f = 258 <;> simp only [q, if_true, if_false] <;> omega)
  rw [(r_kindOf h4).1 hb, ob_s, if_neg nk, r_may, ob_s, if_neg hK, if_neg n10, if_neg n10, if_neg n40]
  by_cases hk : tK B N f = 258
  · have hW := name_ok h hf (show 258 ≤ tK B N f by omega)
    have hx := vIx_is (VN := VN) hv.1 hv.2.1 (wj B f (tL B N f))
    have hle5 := vIx_le VN g l (wj B f (tL B N f)) hv.1 hv.2.1
    have hA := hA hk
    have ev := r_variable hv hm hp hW hx
    have en : nm0 = nM (wj B f (tL B N f)) := (h4 (by omega)).2.2
    rw [← en] at ev
    have k0 : nI (kdT (tK B N f)) = 0 := by unfold kdT; rw [if_pos hk]; decide
    rw [if_pos k0, if_pos k0, ev, ob_s, if_neg (vMi_m (by omega)), ob_s, if_pos hk]
  · have k0 : ¬ nI (kdT (tK B N f)) = 0 := fun z => by
      have := (nI_eq (a := kdT (tK B N f)) (b := 0) (by unfold kdT; by_cases q : tK B N f = 258 <;> simp only [q, if_true, if_false] <;> omega) (by decide)).mp z
      unfold kdT at this
      rw [if_neg hk] at this
      unfold bgS at hb
      omega
    rw [if_neg k0, if_neg k0, if_neg hk]
theorem r_ts40 {B : Nat → Nat} {N : Nat} {c m : Nat → Int32} (h : txt B N c m) {VN : Nat → List Nat} {g l p d b bl par f n k j : Nat} {cg cn : Nat → Int64} {cl : Nat → Int32} {Q : List Nat} {M : MT} {fr to tk : Int32} {nm0 : Int64} (hv : vNm VN g l) (hm : vM VN g l p cg cl cn) (hp : p < 6) (hf : f ≤ N) (hs : rsO B N f fr to tk nm0) (hpre : rPre p d b bl par f n k j Q M) (wa os dd : Int32) (hK : ¬ tK B N f = 257) (hn : n = 40) (hb : bgS (tK B N f)) : ∃ (z fr2 to2 tk2 : Int32) (nm2 : Int64) (wr2 wa2 st2 cd2 bl2 op2 os2 dd2 : Int32) (U : MT), rTs (nI p) (nI N) fr to tk nm0 0 wa (nI g) (nI n) (nI Q.length) (nI bl) (nI d) os dd cg cl cn m M = some (z, fr2, to2, tk2, nm2, wr2, wa2, st2, cd2, bl2, op2, os2, dd2, U) ∧ rTo B N p d b bl n k j Q M wa (.error (3, f)) z fr2 to2 tk2 nm2 wr2 wa2 st2 cd2 bl2 op2 U := by
  obtain ⟨h1, h2, h3, h4⟩ := hs
  subst h1 h3 hn
  have hle := tK_le B N f
  unfold rTs fX11_takeStatement fX11_takeStatement_p16 fX11_fail fX11_fail_p17
  have nk : ¬ nI (kdT (tK B N f)) = -1 := nI_m1 (by unfold kdT; by_cases q : tK B N f = 258 <;> simp only [q, if_true, if_false] <;> omega)
  rw [(r_kindOf h4).1 hb, ob_s, if_neg nk, r_may, ob_s, if_neg hK, if_neg n10, if_neg n10, if_pos (by decide), if_pos rfl, ob_s, bd_eq _ (show bz (0 : Int32) = true by decide)]
  exact ⟨_, _, _, _, _, _, _, _, _, _, _, _, _, M, rfl, Or.inl ⟨rfl, (by decide : (3 : Int32) = nI 3), rfl, (by decide : ¬ (3 : Int32) = 0)⟩⟩
theorem r_tsN {B : Nat → Nat} {N : Nat} {c m : Nat → Int32} (h : txt B N c m) {VN : Nat → List Nat} {g l p d b bl par f n k j : Nat} {cg cn : Nat → Int64} {cl : Nat → Int32} {Q : List Nat} {M : MT} {fr to tk : Int32} {nm0 : Int64} (hv : vNm VN g l) (hm : vM VN g l p cg cl cn) (hp : p < 6) (hf : f ≤ N) (hs : rsO B N f fr to tk nm0) (hpre : rPre p d b bl par f n k j Q M) (wa os dd : Int32) (hK : ¬ tK B N f = 257) (hn : n < 40) (hk : tK B N f = 258) (h5 : vIx VN g l (wj B f (tL B N f)) = 5) : ∃ (z fr2 to2 tk2 : Int32) (nm2 : Int64) (wr2 wa2 st2 cd2 bl2 op2 os2 dd2 : Int32) (U : MT), rTs (nI p) (nI N) fr to tk nm0 0 wa (nI g) (nI n) (nI Q.length) (nI bl) (nI d) os dd cg cl cn m M = some (z, fr2, to2, tk2, nm2, wr2, wa2, st2, cd2, bl2, op2, os2, dd2, U) ∧ rTo B N p d b bl n k j Q M wa (.error (3, f)) z fr2 to2 tk2 nm2 wr2 wa2 st2 cd2 bl2 op2 U := by
  obtain ⟨h1, h2, h3, h4⟩ := hs
  subst h1 h3
  have hle := tK_le B N f
  unfold rTs fX11_takeStatement fX11_takeStatement_p16 fX11_fail fX11_fail_p17
  have n40 : ¬ nI n = 40 := fun z => absurd ((nI_eq (a := n) (b := 40) (by omega) (by decide)).mp z) (by omega)
  have k0 : nI (kdT (tK B N f)) = 0 := by unfold kdT; rw [if_pos hk]; decide
  have nk : ¬ nI (kdT (tK B N f)) = -1 := by rw [k0]; decide
  have hW := name_ok h hf (show 258 ≤ tK B N f by omega)
  have hx := vIx_is (VN := VN) hv.1 hv.2.1 (wj B f (tL B N f))
  have ev := r_variable hv hm hp hW hx
  have en : nm0 = nM (wj B f (tL B N f)) := (h4 (by omega)).2.2
  rw [← en, h5] at ev
  rw [(r_kindOf h4).1 (Or.inl hk), ob_s, if_neg nk, r_may, ob_s, if_neg hK, if_neg n10, if_neg n10, if_neg n40, if_pos k0, ev, ob_s, if_pos (by decide), if_pos rfl, ob_s, bd_eq _ (show bz (0 : Int32) = true by decide)]
  exact ⟨_, _, _, _, _, _, _, _, _, _, _, _, _, M, rfl, Or.inl ⟨rfl, (by decide : (3 : Int32) = nI 3), rfl, (by decide : ¬ (3 : Int32) = 0)⟩⟩
/-- the rest of a statement: the mark behind it -/
theorem r_semi {B : Nat → Nat} {N : Nat} {c m : Nat → Int32} (h : txt B N c m) {f1 : Nat} (hf1 : f1 ≤ N) {fr to tk : Int32} {nm0 : Int64} (hs : rsO B N f1 fr to tk nm0) {d : Nat} (hd : 1 ≤ d) (hd2 : d ≤ 10) {w : Nat} (hw : w < 256) (wa : Int32) :
    ∃ (z fr2 to2 tk2 : Int32) (nm2 : Int64) (wr2 wa2 : Int32), fX11_take (nI w) (nI N) fr to tk nm0 0 wa m = some (z, fr2, to2, tk2, nm2, wr2, wa2) ∧ (z = 0 ∨ z = 1) ∧ match bnd (goT B N f1) (skT B N w) with
      | .error e => rBd e z fr2 tk2 wr2 wa2 (nI d)
      | .ok f2 => z = 1 ∧ rsO B N f2 fr2 to2 tk2 nm2 ∧ wr2 = 0 ∧ wa2 = wa ∧ f1 ≤ f2 := by
  obtain ⟨z, fr2, to2, tk2, nm2, wr2, wa2, e, ho⟩ := r_take h hf1 hs hw wa
  rcases ho with ⟨o1, o2, o3, o4, o5⟩ | ⟨o1, o2, o3, o4⟩
  · refine ⟨z, fr2, to2, tk2, nm2, wr2, wa2, e, Or.inr o2, ?_⟩
    have h7 : ¬ tK B N f1 = 257 := by omega
    unfold goT skT
    rw [if_neg h7]
    dsimp only [bnd]
    rw [if_pos o1]
    unfold goT
    have hx := tX_gt hf1 (show ¬ tK B N f1 = 256 by omega)
    by_cases hq : tK B N (tX B N f1) = 257
    · rw [if_pos hq]
      exact Or.inr ⟨rfl, o2, o3.1, by rw [o3.2.2.1, hq]; decide, o4, d, hd, by omega, rfl⟩
    · rw [if_neg hq]
      exact ⟨o2, o3, o4, o5, by omega⟩
  · refine ⟨z, fr2, to2, tk2, nm2, wr2, wa2, e, Or.inl o2, ?_⟩
    unfold goT skT
    by_cases h7 : tK B N f1 = 257
    · rw [if_pos h7]
      refine Or.inl ⟨o2, o3.trans (by unfold bdK; rw [if_pos h7]), o4, ?_⟩
      rw [o3]; unfold bdK; rw [if_pos h7]; decide
    · rw [if_neg h7]
      dsimp only [bnd]
      rw [if_neg o1]
      refine Or.inl ⟨o2, o3.trans (by unfold bdK; rw [if_neg h7]), o4, ?_⟩
      rw [o3]; unfold bdK; rw [if_neg h7]; decide
theorem r_stmP {B : Nat → Nat} {N : Nat} {c m : Nat → Int32} (h : txt B N c m) {VN : Nat → List Nat} {g l p d b bl par f n k j : Nat} {cg cn : Nat → Int64} {cl : Nat → Int32} {Q : List Nat} {M : MT} {fr to tk : Int32} {nm0 : Int64} (hv : vNm VN g l) (hm : vM VN g l p cg cl cn) (hp : p < 6) (hf : f ≤ N) (hs : rsO B N f fr to tk nm0) (hpre : rPre p d b bl par f n k j Q M) (wa os dd : Int32) (hK : ¬ tK B N f = 257) (hn : n < 40) (hb : bgS (tK B N f)) {kd : Nat} (hkd : kdT (tK B N f) = kd) (h67 : kd = 6 ∨ kd = 7) : ∃ (z fr2 to2 tk2 : Int32) (nm2 : Int64) (wr2 wa2 st2 cd2 bl2 op2 os2 dd2 : Int32) (U : MT), rTs (nI p) (nI N) fr to tk nm0 0 wa (nI g) (nI n) (nI Q.length) (nI bl) (nI d) os dd cg cl cn m M = some (z, fr2, to2, tk2, nm2, wr2, wa2, st2, cd2, bl2, op2, os2, dd2, U) ∧ rTo B N p d b bl n k j Q M wa (plR B N par f n kd) z fr2 to2 tk2 nm2 wr2 wa2 st2 cd2 bl2 op2 U := by
  have hk : ¬ tK B N f = 258 := fun z => by unfold kdT at hkd; rw [if_pos z] at hkd; omega
  rw [r_tsU h hv hm hp hf hs hpre wa os dd hK hn hb (fun z => absurd z hk), if_neg hk, hkd]
  have hx : ∀ x : Nat, x < 6 → ¬ nI kd = nI x := fun x hx z => absurd ((nI_eq (a := kd) (b := x) (by omega) (by omega)).mp z) (by omega)
  have hpre0 := hpre
  obtain ⟨p1, p2, p3, p4, p5, p6, p7, p8, p9⟩ := hpre
  obtain ⟨sb, inn, fs, eb, hsb, hinn, hfs⟩ := r_begin (kd := kd) (f := f) hp hn p5 p6 (by omega) p7 p8
  obtain ⟨fr1, to1, tk1, nm1, e1, hs1⟩ := r_nxt h hf hs
  rw [hs.1, hs.2.2.1] at e1
  obtain ⟨z, fr2, to2, tk2, nm2, wr2, wa2, e2, hz, ho⟩ := r_semi h (tX_le hf) hs1 p5 p6 (w := 59) (by decide) wa
  have e2 : fX11_take 59 (nI N) fr1 to1 tk1 nm1 0 wa m = some (z, fr2, to2, tk2, nm2, wr2, wa2) := e2
  unfold fX11_takeStatement_p87 fX11_takeStatement_p266 fX11_takeStatement_p279 fX11_takeStatement_p280
  rw [eb, ob_s, e1, ob_s, if_neg (show ¬ nI kd = 0 from hx 0 (by decide)), if_neg (show ¬ nI kd = 1 from hx 1 (by decide)), if_neg (show ¬ nI kd = 2 from hx 2 (by decide)), if_neg (show ¬ nI kd = 3 from hx 3 (by decide)), if_pos (show 5 < nI kd from nI_lt (a := 5) (b := kd) (by omega) (by omega))]
  dsimp only
  rw [e2, ob_s]
  dsimp only
  refine ⟨z, fr2, to2, tk2, nm2, wr2, wa2, nI (n + 1), nI Q.length, nI bl, nI d, os, dd, (M.1, upd M.2.1 n (nI kd), upd M.2.2.1 n (nI f), upd M.2.2.2.1 n (nI p), sb, upd M.2.2.2.2.2.1 n (nI b), inn, upd M.2.2.2.2.2.2.2.1 n 0, upd M.2.2.2.2.2.2.2.2.1 n 0, upd M.2.2.2.2.2.2.2.2.2.1 b (nI n), M.2.2.2.2.2.2.2.2.2.2.1, fs, M.2.2.2.2.2.2.2.2.2.2.2.2.1, M.2.2.2.2.2.2.2.2.2.2.2.2.2.1, M.2.2.2.2.2.2.2.2.2.2.2.2.2.2.1, M.2.2.2.2.2.2.2.2.2.2.2.2.2.2.2.1, M.2.2.2.2.2.2.2.2.2.2.2.2.2.2.2.2.1, M.2.2.2.2.2.2.2.2.2.2.2.2.2.2.2.2.2), ?_, ?_⟩
  · rcases hz with hz | hz
    · rw [hz, if_pos rfl, bd_eq _ (by decide)]
    · rw [hz, if_neg n10, bd_eq _ (by decide)]
  · unfold plR
    cases hr : bnd (goT B N (tX B N f)) (skT B N 59) with
    | error e => rw [hr] at ho; exact ho
    | ok f2 =>
      rw [hr] at ho
      obtain ⟨o1, o2, o3, o4, o5⟩ := ho
      have hle2 : f ≤ tX B N f := Nat.le_of_lt (tX_gt hf (fun z => by unfold bgS at hb; omega))
      exact ⟨o1, o2, o3, o4, rfl, Q, bl, rfl, rfl, rfl, one_post hpre0 hn hsb hinn hfs (fun s hs => upd_ne (Nat.ne_of_lt hs)) (fun s hs => upd_ne (Nat.ne_of_lt hs)) (fun _ _ => rfl) (fun _ _ => rfl) (fun _ _ => rfl) p1 ⟨[], (List.append_nil _).symm⟩ (by show Q.length ≤ f2; omega) (fun z => absurd z (by omega)) (fun z => absurd z (by omega)) (fun z => absurd z (by omega))⟩
