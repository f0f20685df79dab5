/-! ===== pure rows 93: statements: the reference's loop, if, while and braces ===== -/
noncomputable def rLp (u : Nat) (sz : Int32) (m : Nat → Int32) (pp y3 fr to tk : Int32) (nm0 : Int64) (wr wa gl pr st cd bl op os dd : Int32) (c2 : Nat → Int64) (c3 : Nat → Int32) (c9 c10 : Nat → Int64) (M : MT) := fX11_takeProcedure_l193 sz m u pp y3 fr to tk nm0 wr wa gl pr st cd bl op os dd c2 c3 M.2.2.2.2.2.2.2.2.2.2.2.1 M.2.2.2.2.2.2.2.2.2.2.2.2.1 M.2.2.2.2.2.2.2.2.2.2.1 M.2.2.2.2.2.2.2.2.2.1 M.1 c9 c10 M.2.1 M.2.2.1 M.2.2.2.1 M.2.2.2.2.1 M.2.2.2.2.2.1 M.2.2.2.2.2.2.1 M.2.2.2.2.2.2.2.1 M.2.2.2.2.2.2.2.2.1 M.2.2.2.2.2.2.2.2.2.2.2.2.2.1 M.2.2.2.2.2.2.2.2.2.2.2.2.2.2.1 M.2.2.2.2.2.2.2.2.2.2.2.2.2.2.2.1 M.2.2.2.2.2.2.2.2.2.2.2.2.2.2.2.2.1 M.2.2.2.2.2.2.2.2.2.2.2.2.2.2.2.2.2
abbrev RpO : Type := Int32 × Int32 × Int32 × Int32 × Int64 × Int32 × Int32 × Int32 × Int32 × Int32 × Int32 × Int32 × Int32 × Int32 × Int32 × (Nat → Int64) × (Nat → Int32) × (Nat → Int32) × (Nat → Int32) × (Nat → Int32) × (Nat → Int32) × (Nat → Int32) × (Nat → Int64) × (Nat → Int64) × (Nat → Int32) × (Nat → Int32) × (Nat → Int32) × (Nat → Int32) × (Nat → Int32) × (Nat → Int32) × (Nat → Int32) × (Nat → Int32) × (Nat → Int32) × (Nat → Int32) × (Nat → Int32) × (Nat → Int64) × (Nat → Int32)
def rEnd (e : Nat × Nat) (o : RpO) : Prop := o.1 = 0 ∧ o.2.2.2.2.2.1 = nI e.1 ∧ o.2.2.2.2.2.2.1 = nI e.2
theorem r_lp0 (u : Nat) (sz : Int32) (m : Nat → Int32) (pp fr to tk : Int32) (nm0 : Int64) (wr wa gl pr st cd bl op os dd : Int32) (c2 : Nat → Int64) (c3 : Nat → Int32) (c9 c10 : Nat → Int64) (M : MT) {e : Nat × Nat} (h1 : wr = nI e.1) (h2 : wa = nI e.2) : ∃ o, rLp (u + 1) sz m pp 0 fr to tk nm0 wr wa gl pr st cd bl op os dd c2 c3 c9 c10 M = some o ∧ rEnd e o := by
  unfold rLp
  show ∃ o, fX11_takeProcedure_b193 sz m _ pp 0 fr to tk nm0 wr wa gl pr st cd bl op os dd c2 c3 M.2.2.2.2.2.2.2.2.2.2.2.1 M.2.2.2.2.2.2.2.2.2.2.2.2.1 M.2.2.2.2.2.2.2.2.2.2.1 M.2.2.2.2.2.2.2.2.2.1 M.1 c9 c10 M.2.1 M.2.2.1 M.2.2.2.1 M.2.2.2.2.1 M.2.2.2.2.2.1 M.2.2.2.2.2.2.1 M.2.2.2.2.2.2.2.1 M.2.2.2.2.2.2.2.2.1 M.2.2.2.2.2.2.2.2.2.2.2.2.2.1 M.2.2.2.2.2.2.2.2.2.2.2.2.2.2.1 M.2.2.2.2.2.2.2.2.2.2.2.2.2.2.2.1 M.2.2.2.2.2.2.2.2.2.2.2.2.2.2.2.2.1 M.2.2.2.2.2.2.2.2.2.2.2.2.2.2.2.2.2 = some o ∧ _
  unfold fX11_takeProcedure_b193 fX11_takeProcedure_p248
  rw [if_pos rfl, bd_eq _ (by decide)]
  exact ⟨_, rfl, rfl, h1, h2⟩
theorem r_lpB (u : Nat) (sz : Int32) (m : Nat → Int32) (pp : Int32) {z fr to tk : Int32} (nm0 : Int64) {wr wa : Int32} (gl pr st cd bl : Int32) {op : Int32} (os dd : Int32) (c2 : Nat → Int64) (c3 : Nat → Int32) (c9 c10 : Nat → Int64) (M : MT) {e : Nat × Nat} (h : rBd e z fr tk wr wa op) : ∃ o, rLp (u + 2) sz m pp (if z = 0 then 0 else 1) fr to tk nm0 wr wa gl pr st cd bl op os dd c2 c3 c9 c10 M = some o ∧ rEnd e o := by
  rcases h with ⟨h1, h2, h3, h4⟩ | ⟨h1, h2, h3, h4, h5, d2, hd1, hd2, h6⟩
  · rw [if_pos h1]
    exact r_lp0 (u + 1) sz m pp fr to tk nm0 wr wa gl pr st cd bl op os dd c2 c3 c9 c10 M h2 h3
  · have em : fX11_may 1 fr tk wr wa = some (0, (1, nI e.2)) := by
      rw [h3, h4, h5]
      have := r_may (k := 257) (f := e.2) (b := 1) (wa := wa)
      rw [if_pos rfl] at this
      exact this
    have e0 : ∃ o, rLp (u + 1) sz m pp 0 fr to tk nm0 1 (nI e.2) gl pr st cd bl op os dd c2 c3 c9 c10 M = some o ∧ rEnd e o := r_lp0 u sz m pp fr to tk nm0 1 (nI e.2) gl pr st cd bl op os dd c2 c3 c9 c10 M (by rw [h1]; decide) rfl
    rw [h2, if_neg n10]
    unfold rLp
    show ∃ o, fX11_takeProcedure_b193 sz m _ pp 1 fr to tk nm0 wr wa gl pr st cd bl op os dd c2 c3 M.2.2.2.2.2.2.2.2.2.2.2.1 M.2.2.2.2.2.2.2.2.2.2.2.2.1 M.2.2.2.2.2.2.2.2.2.2.1 M.2.2.2.2.2.2.2.2.2.1 M.1 c9 c10 M.2.1 M.2.2.1 M.2.2.2.1 M.2.2.2.2.1 M.2.2.2.2.2.1 M.2.2.2.2.2.2.1 M.2.2.2.2.2.2.2.1 M.2.2.2.2.2.2.2.2.1 M.2.2.2.2.2.2.2.2.2.2.2.2.2.1 M.2.2.2.2.2.2.2.2.2.2.2.2.2.2.1 M.2.2.2.2.2.2.2.2.2.2.2.2.2.2.2.1 M.2.2.2.2.2.2.2.2.2.2.2.2.2.2.2.2.1 M.2.2.2.2.2.2.2.2.2.2.2.2.2.2.2.2.2 = some o ∧ _
    unfold fX11_takeProcedure_b193 fX11_takeProcedure_p243 fX11_takeProcedure_p244
    have hop : ¬ op ≤ 0 := by rw [h6]; exact Int32.not_le.mpr (show (0 : Int32) < nI d2 from nI_lt (a := 0) (b := d2) (by omega) (by omega))
    rw [if_neg n10, if_neg hop, em, ob_s, if_pos rfl]
    exact e0
/-- one more round: a statement -/
theorem r_it {B : Nat → Nat} {N : Nat} {c m : Nat → Int32} (h : txt B N c m) {f d : Nat} {fr to tk : Int32} {nm0 : Int64} (hs : rsO B N f fr to tk nm0) (hK : ¬ tK B N f = 257) (hK2 : ¬ tK B N f = 125) (hd : 1 ≤ d) (hd2 : d ≤ 10) (u : Nat) (pp wa gl pr st cd bl os dd : Int32) (c2 : Nat → Int64) (c3 : Nat → Int32) (c9 c10 : Nat → Int64) (M : MT) {z fr2 to2 tk2 : Int32} {nm2 : Int64} {wr2 wa2 st2 cd2 bl2 op2 os2 dd2 : Int32} {U : MT}
    (e : rTs pp (nI N) fr to tk nm0 0 wa gl st cd bl (nI d) os dd c9 c3 c10 m M = some (z, fr2, to2, tk2, nm2, wr2, wa2, st2, cd2, bl2, op2, os2, dd2, U)) :
    rLp (u + 1) (nI N) m pp 1 fr to tk nm0 0 wa gl pr st cd bl (nI d) os dd c2 c3 c9 c10 M = rLp u (nI N) m pp (if z = 0 then 0 else 1) fr2 to2 tk2 nm2 wr2 wa2 gl pr st2 cd2 bl2 op2 os2 dd2 c2 c3 c9 c10 U := by
  have em : fX11_may 1 fr tk 0 wa = some (1, (0, wa)) := by
    rw [hs.1, hs.2.2.1, r_may, if_neg hK, if_neg n10]
  have es : fX11_sees 125 (nI N) fr tk m = some (0, ()) := by
    rw [hs.1, hs.2.2.1]
    have := r_sees (f := f) (a := 125) h (by decide)
    rw [if_neg hK2] at this
    exact this
  have hop : ¬ nI d ≤ 0 := Int32.not_le.mpr (show (0 : Int32) < nI d from nI_lt (a := 0) (b := d) (by omega) (by omega))
  unfold rTs at e
  unfold rLp
  show fX11_takeProcedure_b193 (nI N) m _ pp 1 fr to tk nm0 0 wa gl pr st cd bl (nI d) os dd c2 c3 M.2.2.2.2.2.2.2.2.2.2.2.1 M.2.2.2.2.2.2.2.2.2.2.2.2.1 M.2.2.2.2.2.2.2.2.2.2.1 M.2.2.2.2.2.2.2.2.2.1 M.1 c9 c10 M.2.1 M.2.2.1 M.2.2.2.1 M.2.2.2.2.1 M.2.2.2.2.2.1 M.2.2.2.2.2.2.1 M.2.2.2.2.2.2.2.1 M.2.2.2.2.2.2.2.2.1 M.2.2.2.2.2.2.2.2.2.2.2.2.2.1 M.2.2.2.2.2.2.2.2.2.2.2.2.2.2.1 M.2.2.2.2.2.2.2.2.2.2.2.2.2.2.2.1 M.2.2.2.2.2.2.2.2.2.2.2.2.2.2.2.2.1 M.2.2.2.2.2.2.2.2.2.2.2.2.2.2.2.2.2 = _
  unfold fX11_takeProcedure_b193 fX11_takeProcedure_p243 fX11_takeProcedure_p239 fX11_takeProcedure_p244
  rw [if_neg n10, if_neg hop, em, ob_s, if_neg n10, es, ob_s, if_pos rfl, e, ob_s]
  dsimp only
  by_cases hz : z = 0
  · rw [if_pos hz, if_pos hz]
  · rw [if_neg hz, if_neg hz]
/-- one more round: a closing brace -/
theorem r_itC {B : Nat → Nat} {N : Nat} {c m : Nat → Int32} (h : txt B N c m) {f d : Nat} {fr to tk : Int32} {nm0 : Int64} (hs : rsO B N f fr to tk nm0) (hK2 : tK B N f = 125) (hd : 1 ≤ d) (hd2 : d ≤ 11) (u : Nat) (pp wa gl pr st cd bl os dd : Int32) (c2 : Nat → Int64) (c3 : Nat → Int32) (c9 c10 : Nat → Int64) (M : MT) {z fr2 to2 tk2 : Int32} {nm2 : Int64} {wr2 wa2 bl2 op2 : Int32} {x0 x10 x12 x9 : Nat → Int32}
    (e : fX11_closeBlock (nI N) fr to tk nm0 0 wa bl (nI d) M.1 m M.2.2.2.2.2.2.2.2.2.2.1 M.2.2.2.2.2.2.2.2.2.2.2.2.1 M.2.2.2.2.2.2.2.2.2.1 = some (z, fr2, to2, tk2, nm2, wr2, wa2, bl2, op2, x0, x10, x12, x9)) :
    rLp (u + 1) (nI N) m pp 1 fr to tk nm0 0 wa gl pr st cd bl (nI d) os dd c2 c3 c9 c10 M = rLp u (nI N) m pp (if z = 0 then 0 else 1) fr2 to2 tk2 nm2 wr2 wa2 gl pr st cd bl2 op2 os dd c2 c3 c9 c10 (x0, M.2.1, M.2.2.1, M.2.2.2.1, M.2.2.2.2.1, M.2.2.2.2.2.1, M.2.2.2.2.2.2.1, M.2.2.2.2.2.2.2.1, M.2.2.2.2.2.2.2.2.1, x9, x10, M.2.2.2.2.2.2.2.2.2.2.2.1, x12, M.2.2.2.2.2.2.2.2.2.2.2.2.2.1, M.2.2.2.2.2.2.2.2.2.2.2.2.2.2.1, M.2.2.2.2.2.2.2.2.2.2.2.2.2.2.2.1, M.2.2.2.2.2.2.2.2.2.2.2.2.2.2.2.2.1, M.2.2.2.2.2.2.2.2.2.2.2.2.2.2.2.2.2) := by
  have em : fX11_may 1 fr tk 0 wa = some (1, (0, wa)) := by
    rw [hs.1, hs.2.2.1, r_may, if_neg (by omega), if_neg n10]
  have es : fX11_sees 125 (nI N) fr tk m = some (1, ()) := by
    rw [hs.1, hs.2.2.1]
    have := r_sees (f := f) (a := 125) h (by decide)
    rw [if_pos hK2] at this
    exact this
  have hop : ¬ nI d ≤ 0 := Int32.not_le.mpr (show (0 : Int32) < nI d from nI_lt (a := 0) (b := d) (by omega) (by omega))
  unfold rLp
  show fX11_takeProcedure_b193 (nI N) m _ pp 1 fr to tk nm0 0 wa gl pr st cd bl (nI d) os dd c2 c3 M.2.2.2.2.2.2.2.2.2.2.2.1 M.2.2.2.2.2.2.2.2.2.2.2.2.1 M.2.2.2.2.2.2.2.2.2.2.1 M.2.2.2.2.2.2.2.2.2.1 M.1 c9 c10 M.2.1 M.2.2.1 M.2.2.2.1 M.2.2.2.2.1 M.2.2.2.2.2.1 M.2.2.2.2.2.2.1 M.2.2.2.2.2.2.2.1 M.2.2.2.2.2.2.2.2.1 M.2.2.2.2.2.2.2.2.2.2.2.2.2.1 M.2.2.2.2.2.2.2.2.2.2.2.2.2.2.1 M.2.2.2.2.2.2.2.2.2.2.2.2.2.2.2.1 M.2.2.2.2.2.2.2.2.2.2.2.2.2.2.2.2.1 M.2.2.2.2.2.2.2.2.2.2.2.2.2.2.2.2.2 = _
  unfold fX11_takeProcedure_b193 fX11_takeProcedure_p243 fX11_takeProcedure_p239 fX11_takeProcedure_p244
  rw [if_neg n10, if_neg hop, em, ob_s, if_neg n10, es, ob_s, if_neg n10, e, ob_s]
  dsimp only
  by_cases hz : z = 0
  · rw [if_pos hz, if_pos hz]
  · rw [if_neg hz, if_neg hz]
/-- no statement and no brace stands there -/
theorem r_itE {B : Nat → Nat} {N : Nat} {c m : Nat → Int32} (h : txt B N c m) {f d : Nat} {fr to tk : Int32} {nm0 : Int64} (hs : rsO B N f fr to tk nm0) (hK : ¬ tK B N f = 257) (hK2 : ¬ tK B N f = 125) (hb : ¬ bgS (tK B N f)) (hd : 1 ≤ d) (hd2 : d ≤ 10) (u : Nat) (pp wa gl pr st cd bl os dd : Int32) (c2 : Nat → Int64) (c3 : Nat → Int32) (c9 c10 : Nat → Int64) (M : MT) :
    ∃ o, rLp (u + 3) (nI N) m pp 1 fr to tk nm0 0 wa gl pr st cd bl (nI d) os dd c2 c3 c9 c10 M = some o ∧ rEnd (2, f) o := by
  have e : rTs pp (nI N) fr to tk nm0 0 wa gl st cd bl (nI d) os dd c9 c3 c10 m M = some (0, fr, to, tk, nm0, 2, nI f, st, cd, bl, nI d, os, dd, M) := by
    obtain ⟨h1, h2, h3, h4⟩ := hs
    subst h1 h3
    unfold rTs fX11_takeStatement fX11_takeStatement_p16
    rw [(r_kindOf h4).2 hb, ob_s, if_pos rfl, r_may, ob_s, if_neg hK, if_pos rfl, if_pos rfl]
  rw [r_it h hs hK hK2 hd hd2 (u + 2) pp wa gl pr st cd bl os dd c2 c3 c9 c10 M e]
  exact r_lpB u (nI N) m pp nm0 gl pr st cd bl os dd c2 c3 c9 c10 M (Or.inl ⟨rfl, (by decide : (2 : Int32) = nI 2), rfl, (by decide : ¬ (2 : Int32) = 0)⟩)
def opn (M : MT) (bl d : Nat) (own srt : Int32) : MT := (upd M.1 d (nI bl), M.2.1, M.2.2.1, M.2.2.2.1, M.2.2.2.2.1, M.2.2.2.2.2.1, M.2.2.2.2.2.2.1, M.2.2.2.2.2.2.2.1, M.2.2.2.2.2.2.2.2.1, upd M.2.2.2.2.2.2.2.2.2.1 bl (-1), upd M.2.2.2.2.2.2.2.2.2.2.1 bl srt, M.2.2.2.2.2.2.2.2.2.2.2.1, upd M.2.2.2.2.2.2.2.2.2.2.2.2.1 bl own, M.2.2.2.2.2.2.2.2.2.2.2.2.2.1, M.2.2.2.2.2.2.2.2.2.2.2.2.2.2.1, M.2.2.2.2.2.2.2.2.2.2.2.2.2.2.2.1, M.2.2.2.2.2.2.2.2.2.2.2.2.2.2.2.2.1, M.2.2.2.2.2.2.2.2.2.2.2.2.2.2.2.2.2)
/-- the head of an if or a while -/
def hdR (B : Nat → Nat) (N : Nat) (VN : Nat → List Nat) (g l d f : Nat) : Except (Nat × Nat) (List Nat × Nat) := match goT B N (tX B N f) with
  | .error e => .error e
  | .ok f1 => match exP B N VN g l f1 with
    | .error e => .error e
    | .ok q => match opT B N d q.2 with
      | .error e => .error e
      | .ok f3 => .ok (q.1, f3)
theorem r_head {B : Nat → Nat} {N : Nat} {c m : Nat → Int32} (h : txt B N c m) {VN : Nat → List Nat} {g l p d b bl par f n k j : Nat} {cg cn : Nat → Int64} {cl : Nat → Int32} {Q : List Nat} {M : MT} {fr to tk : Int32} {nm0 : Int64} (hv : vNm VN g l) (hm : vM VN g l p cg cl cn) (hp : p < 6) (hf : f ≤ N) (hs : rsO B N f fr to tk nm0) (hpre : rPre p d b bl par f n k j Q M) (wa os dd : Int32) (hK : ¬ tK B N f = 257) (hn : n < 40) (hb : bgS (tK B N f)) {kd : Nat} (hkd : kdT (tK B N f) = kd) (h12 : kd = 1 ∨ kd = 2) : ∃ (z fr2 to2 tk2 : Int32) (nm2 : Int64) (wr2 wa2 st2 cd2 bl2 op2 os2 dd2 : Int32) (U : MT), rTs (nI p) (nI N) fr to tk nm0 0 wa (nI g) (nI n) (nI Q.length) (nI bl) (nI d) os dd cg cl cn m M = some (z, fr2, to2, tk2, nm2, wr2, wa2, st2, cd2, bl2, op2, os2, dd2, U) ∧ match hdR B N VN g l d f with
      | .error e => rBd e z fr2 tk2 wr2 wa2 op2
      | .ok x => z = 1 ∧ rsO B N x.2 fr2 to2 tk2 nm2 ∧ wr2 = 0 ∧ wa2 = wa ∧ op2 = nI (d + 1) ∧ st2 = nI (n + 1) ∧ cd2 = nI (Q ++ x.1).length ∧ bl2 = nI (bl + 1) ∧ ∃ V : MT, U = opn V bl d (nI n) (if kd = 1 then 1 else 3) ∧ rPost B N p d b bl n k j true Q M (n + 1, x.2, fun a _ => rwP kd f par 40 40 0 0 a, fun _ => x.1) (Q ++ x.1) bl V := by
  have hk : ¬ tK B N f = 258 := fun z => by unfold kdT at hkd; rw [if_pos z] at hkd; omega
  rw [r_tsU h hv hm hp hf hs hpre wa os dd hK hn hb (fun z => absurd z hk), if_neg hk, hkd]
  have hpre0 := hpre
  obtain ⟨p1, p2, p3, p4, p5, p6, p7, p8, p9⟩ := hpre
  obtain ⟨sb, inn, fs, eb, hsb, hinn, hfs⟩ := r_begin (kd := kd) (f := f) hp hn p5 p6 (by omega) p7 p8
  obtain ⟨fr1, to1, tk1, nm1, e1, hs1⟩ := r_nxt h hf hs
  rw [hs.1, hs.2.2.1] at e1
  have hlt : f < tX B N f := tX_gt hf (fun z => by unfold bgS at hb; omega)
  have hX := tX_le (B := B) hf
  obtain ⟨y, fr2, to2, tk2, nm2, wr2, wa2, cd2, os2, dd2, d1, d3, d7, d8, e2, ho2⟩ := r_ex h hv hm hp hX hs1 hn wa os dd (upd M.2.2.2.2.2.2.2.1 n 0) M.2.2.2.2.2.2.2.2.2.2.2.2.2.2.1 M.2.2.2.2.2.2.2.2.2.2.2.2.2.2.2.1 (upd M.2.2.2.2.2.2.2.2.1 n 0) p1 (by omega)
  have key : fX11_takeStatement_p87 (nI N) (nI g) cg cl cn m (nI p) (nI kd) (-1) (nI f) to (nI (kM (tK B N f))) nm0 0 wa (nI n) (nI Q.length) (nI bl) (nI d) os dd M.1 M.2.1 M.2.2.1 M.2.2.2.1 M.2.2.2.2.1 M.2.2.2.2.2.1 M.2.2.2.2.2.2.1 M.2.2.2.2.2.2.2.1 M.2.2.2.2.2.2.2.2.1 M.2.2.2.2.2.2.2.2.2.1 M.2.2.2.2.2.2.2.2.2.2.1 M.2.2.2.2.2.2.2.2.2.2.2.1 M.2.2.2.2.2.2.2.2.2.2.2.2.1 M.2.2.2.2.2.2.2.2.2.2.2.2.2.1 M.2.2.2.2.2.2.2.2.2.2.2.2.2.2.1 M.2.2.2.2.2.2.2.2.2.2.2.2.2.2.2.1 M.2.2.2.2.2.2.2.2.2.2.2.2.2.2.2.2.1 M.2.2.2.2.2.2.2.2.2.2.2.2.2.2.2.2.2 = fX11_takeStatement_p156 (nI N) (nI g) cg cl cn m (nI p) (nI kd) (nI n) fr1 to1 tk1 nm1 0 wa (nI (n + 1)) (nI Q.length) (nI bl) (nI d) os dd M.1 (upd M.2.1 n (nI kd)) (upd M.2.2.1 n (nI f)) (upd M.2.2.2.1 n (nI p)) sb (upd M.2.2.2.2.2.1 n (nI b)) inn (upd M.2.2.2.2.2.2.2.1 n 0) (upd M.2.2.2.2.2.2.2.2.1 n 0) (upd M.2.2.2.2.2.2.2.2.2.1 b (nI n)) M.2.2.2.2.2.2.2.2.2.2.1 fs M.2.2.2.2.2.2.2.2.2.2.2.2.1 M.2.2.2.2.2.2.2.2.2.2.2.2.2.1 M.2.2.2.2.2.2.2.2.2.2.2.2.2.2.1 M.2.2.2.2.2.2.2.2.2.2.2.2.2.2.2.1 M.2.2.2.2.2.2.2.2.2.2.2.2.2.2.2.2.1 M.2.2.2.2.2.2.2.2.2.2.2.2.2.2.2.2.2 := by
    unfold fX11_takeStatement_p87
    rw [eb, ob_s, e1, ob_s]
    rcases h12 with h12 | h12
    · subst h12
      rw [if_neg (by decide), if_pos (by decide)]
    · subst h12
      rw [if_neg (by decide), if_neg (by decide), if_pos (by decide)]
  rw [key]
  unfold fX11_takeStatement_p156 fX11_takeStatement_p179 fX11_takeStatement_p189 fX11_takeStatement_p190
  rw [e2, ob_s]
  dsimp only
  unfold hdR
  by_cases h1 : tK B N (tX B N f) = 257
  · have hgo : goT B N (tX B N f) = .error (1, tX B N f) := by unfold goT; rw [if_pos h1]
    rw [exP_257 h1] at ho2
    rw [hgo, if_pos ho2.1, bd_eq _ (by decide)]
    exact ⟨_, _, _, _, _, _, _, _, _, _, _, _, _, _, rfl, Or.inl ⟨rfl, ho2.2.1, ho2.2.2.1, ho2.2.2.2⟩⟩
  · have hgo : goT B N (tX B N f) = .ok (tX B N f) := by unfold goT; rw [if_neg h1]
    rw [hgo]
    dsimp only
    cases hex : exP B N VN g l (tX B N f) with
    | error e =>
      rw [hex] at ho2
      rw [if_pos ho2.1, bd_eq _ (by decide)]
      exact ⟨_, _, _, _, _, _, _, _, _, _, _, _, _, _, rfl, Or.inl ⟨rfl, ho2.2.1, ho2.2.2.1, ho2.2.2.2⟩⟩
    | ok q =>
      rw [hex] at ho2
      obtain ⟨o1, o2, o3, o4, o5, o6, o7, o8, o9⟩ := ho2
      obtain ⟨q1, q2, q3, q4⟩ := exP_ok hX hex
      dsimp only
      subst o3 o6 o8
      rw [o4, o1, if_neg n10]
      -- both sorts
      have two : ∀ srt : Int32, (if kd = 1 then (1 : Int32) else 3) = srt → ∃ (z fr3 to3 tk3 : Int32) (nm3 : Int64) (wr3 wa3 st3 cd3 bl3 op3 os3 dd3 : Int32) (U : MT), (ob (fX11_openBlock (nI n) srt (nI N) fr2 to2 tk2 nm2 0 wa (nI bl) (nI d) m M.2.2.2.2.2.2.2.2.2.2.2.2.1 M.2.2.2.2.2.2.2.2.2.2.1 (upd M.2.2.2.2.2.2.2.2.2.1 b (nI n)) M.1) fun o2 =>
          if o2.1 = 0 then bd (bz 0) (some (0, o2.2.1, o2.2.2.1, o2.2.2.2.1, o2.2.2.2.2.1, o2.2.2.2.2.2.1, o2.2.2.2.2.2.2.1, nI (n + 1), cd2, o2.2.2.2.2.2.2.2.1, o2.2.2.2.2.2.2.2.2.1, os2, dd2, o2.2.2.2.2.2.2.2.2.2.2.2.2, upd M.2.1 n (nI kd), upd M.2.2.1 n (nI f), upd M.2.2.2.1 n (nI p), sb, upd M.2.2.2.2.2.1 n (nI b), inn, upd (upd M.2.2.2.2.2.2.2.1 n 0) n (nI Q.length), upd (upd M.2.2.2.2.2.2.2.2.1 n 0) n (nI (Q ++ q.1).length), o2.2.2.2.2.2.2.2.2.2.2.2.1, o2.2.2.2.2.2.2.2.2.2.2.1, fs, o2.2.2.2.2.2.2.2.2.2.1, M.2.2.2.2.2.2.2.2.2.2.2.2.2.1, d3, d7, M.2.2.2.2.2.2.2.2.2.2.2.2.2.2.2.2.1, M.2.2.2.2.2.2.2.2.2.2.2.2.2.2.2.2.2))
          else bd (bz 1) (some (1, o2.2.1, o2.2.2.1, o2.2.2.2.1, o2.2.2.2.2.1, o2.2.2.2.2.2.1, o2.2.2.2.2.2.2.1, nI (n + 1), cd2, o2.2.2.2.2.2.2.2.1, o2.2.2.2.2.2.2.2.2.1, os2, dd2, o2.2.2.2.2.2.2.2.2.2.2.2.2, upd M.2.1 n (nI kd), upd M.2.2.1 n (nI f), upd M.2.2.2.1 n (nI p), sb, upd M.2.2.2.2.2.1 n (nI b), inn, upd (upd M.2.2.2.2.2.2.2.1 n 0) n (nI Q.length), upd (upd M.2.2.2.2.2.2.2.2.1 n 0) n (nI (Q ++ q.1).length), o2.2.2.2.2.2.2.2.2.2.2.2.1, o2.2.2.2.2.2.2.2.2.2.2.1, fs, o2.2.2.2.2.2.2.2.2.2.1, M.2.2.2.2.2.2.2.2.2.2.2.2.2.1, d3, d7, M.2.2.2.2.2.2.2.2.2.2.2.2.2.2.2.2.1, M.2.2.2.2.2.2.2.2.2.2.2.2.2.2.2.2.2))) = some (z, fr3, to3, tk3, nm3, wr3, wa3, st3, cd3, bl3, op3, os3, dd3, U) ∧ match (match opT B N d q.2 with
            | .error e => .error e
            | .ok f3 => .ok (q.1, f3) : Except (Nat × Nat) (List Nat × Nat)) with
          | .error e => rBd e z fr3 tk3 wr3 wa3 op3
          | .ok x => z = 1 ∧ rsO B N x.2 fr3 to3 tk3 nm3 ∧ wr3 = 0 ∧ wa3 = wa ∧ op3 = nI (d + 1) ∧ st3 = nI (n + 1) ∧ cd3 = nI (Q ++ x.1).length ∧ bl3 = nI (bl + 1) ∧ ∃ V : MT, U = opn V bl d (nI n) (if kd = 1 then 1 else 3) ∧ rPost B N p d b bl n k j true Q M (n + 1, x.2, fun a _ => rwP kd f par 40 40 0 0 a, fun _ => x.1) (Q ++ x.1) bl V := by
        intro srt hsrt
        obtain ⟨z, fr3, to3, tk3, nm3, wr3, wa3, bl3, op3, bo3, bs3, bt3, ob3, e3, ho3⟩ := r_open h q2 o2 p6 (show bl < 90 by omega) (nI n) srt wa M.2.2.2.2.2.2.2.2.2.2.2.2.1 M.2.2.2.2.2.2.2.2.2.2.1 (upd M.2.2.2.2.2.2.2.2.2.1 b (nI n)) M.1
        rw [e3, ob_s]
        dsimp only
        rcases ho3 with ⟨x1, x2, x3, x4, x5, x6, x7, x8, x9, x10, x11, x12⟩ | ⟨x1, e, x2, x3, x4⟩
        · rw [x3, if_neg n10, bd_eq _ (by decide)]
          have hlt2 := tX_gt (B := B) q2 (by omega)
          refine ⟨_, _, _, _, _, _, _, _, _, _, _, _, _, _, rfl, ?_⟩
          have hop : opT B N d q.2 = goT B N (tX B N q.2) := by
            unfold opT skT
            rw [if_neg (fun w => absurd w.2 (by omega)), if_pos x1]
          rw [hop]
          unfold goT
          by_cases h9 : tK B N (tX B N q.2) = 257
          · rw [if_pos h9]
            exact Or.inr ⟨rfl, rfl, x4.1, by rw [x4.2.2.1, h9]; decide, x5, d + 1, by omega, by omega, x8⟩
          · rw [if_neg h9]
            refine ⟨rfl, x4, x5, x6, x8, rfl, o5, x7, (M.1, upd M.2.1 n (nI kd), upd M.2.2.1 n (nI f), upd M.2.2.2.1 n (nI p), sb, upd M.2.2.2.2.2.1 n (nI b), inn, upd (upd M.2.2.2.2.2.2.2.1 n 0) n (nI Q.length), upd (upd M.2.2.2.2.2.2.2.2.1 n 0) n (nI (Q ++ q.1).length), upd M.2.2.2.2.2.2.2.2.2.1 b (nI n), M.2.2.2.2.2.2.2.2.2.2.1, fs, M.2.2.2.2.2.2.2.2.2.2.2.2.1, M.2.2.2.2.2.2.2.2.2.2.2.2.2.1, d3, d7, M.2.2.2.2.2.2.2.2.2.2.2.2.2.2.2.2.1, M.2.2.2.2.2.2.2.2.2.2.2.2.2.2.2.2.2), ?_, ?_⟩
            · rw [x9, x10, x11, x12, hsrt]
              rfl
            · exact one_post hpre0 hn hsb hinn hfs (fun s hs => (upd_ne (Nat.ne_of_lt hs)).trans (upd_ne (Nat.ne_of_lt hs))) (fun s hs => (upd_ne (Nat.ne_of_lt hs)).trans (upd_ne (Nat.ne_of_lt hs))) (fun _ _ => rfl) (fun _ _ => rfl) (fun _ _ => rfl) o7 ⟨q.1, rfl⟩ (by show (Q ++ q.1).length ≤ tX B N q.2; omega) (fun _ => by rw [upd_at, upd_at]; exact seg_one) (fun z => absurd z (by omega)) (fun z => absurd z (by omega))
        · rw [x1, if_pos rfl, bd_eq _ (by decide)]
          refine ⟨_, _, _, _, _, _, _, _, _, _, _, _, _, _, rfl, ?_⟩
          rcases x2 with ⟨y1, y2⟩ | ⟨y1, y2⟩
          · exact absurd y1 q1
          · rw [y2]
            have he : 1 ≤ e.1 ∧ e.1 ≤ 9 := by
              unfold opT skT goT at y2
              split at y2
              · cases y2; exact (by decide : 1 ≤ 3 ∧ 3 ≤ 9)
              · split at y2
                · split at y2
                  · cases y2; exact (by decide : 1 ≤ 1 ∧ 1 ≤ 9)
                  · cases y2
                · cases y2; exact (by decide : 1 ≤ 2 ∧ 2 ≤ 9)
            exact Or.inl ⟨rfl, x3, x4, by rw [x3]; exact fun w => absurd ((nI_eq (a := e.1) (b := 0) (by omega) (by decide)).mp w) (by omega)⟩
      rcases h12 with h12 | h12
      · rw [if_pos (show nI kd = 1 from congrArg nI h12)]
        exact two 1 (if_pos h12)
      · rw [if_neg (show ¬ nI kd = 1 from fun z => absurd ((nI_eq (a := kd) (b := 1) (by omega) (by decide)).mp z) (by omega))]
        exact two 3 (if_neg (by omega))
