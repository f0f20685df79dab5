/-! ===== pure rows 95: statements: the reference's if and while, whole ===== -/
theorem r_cl1 {B : Nat → Nat} {N : Nat} {c m : Nat → Int32} (h : txt B N c m) {f d b : Nat} {fr to tk : Int32} {nm0 : Int64} (hf : f ≤ N) (hs : rsO B N f fr to tk nm0) (hd : d ≤ 10) (wa bl : Int32) {x0 x10 x12 x9 : Nat → Int32} (hob : x0 d = nI b) (hb : b < 90) (hc : ¬ x10 b = 1 ∨ (¬ tK B N (tX B N f) = 257 ∧ ¬ tK B N (tX B N f) = 261)) :
    ∃ (fr2 to2 tk2 : Int32) (nm2 : Int64), fX11_closeBlock (nI N) fr to tk nm0 0 wa bl (nI (d + 1)) x0 m x10 x12 x9 = some (1, fr2, to2, tk2, nm2, 0, wa, bl, nI d, x0, x10, x12, x9) ∧ rsO B N (tX B N f) fr2 to2 tk2 nm2 := by
  obtain ⟨fr2, to2, tk2, nm2, e, hs2⟩ := r_nxt h hf hs
  have e1 : nI (d + 1) - 1 = nI d := nI_dif (n := d + 1) (k := 1) (by omega)
  refine ⟨fr2, to2, tk2, nm2, ?_, hs2⟩
  unfold fX11_closeBlock fX11_closeBlock_p68 fX11_closeBlock_p80
  rw [nm_q, e1, bd_eq _ (inb_nI (j := d) (n := 12) (by omega) (by decide)), nm_q, nI_clamp (n := d) (by omega), hob, e, ob_s, bd_eq _ (inb_nI (j := b) (n := 90) hb (by decide)), nm_q, nI_clamp (n := b) (by omega)]
  by_cases h1 : x10 b = 1
  · rcases hc with hc | ⟨hc1, hc2⟩
    · exact absurd h1 hc
    · obtain ⟨i1, i2, i3, i4⟩ := hs2
      have ei := r_isThe i4 (i := 2) (by decide)
      rw [kw_m.2.2.1, if_neg hc2, ← i3] at ei
      rw [if_pos h1]
      dsimp only
      rw [show fX11_may 1 fr2 tk2 0 wa = some (1, (0, wa)) from by rw [i1, i3, r_may, if_neg hc1, if_neg n10], ob_s, if_neg n10, ei, ob_s, if_pos rfl, if_pos rfl, bd_eq _ (by decide)]
  · rw [if_neg h1, if_pos rfl, bd_eq _ (by decide)]
theorem r_cl2 {B : Nat → Nat} {N : Nat} {c m : Nat → Int32} (h : txt B N c m) {f d b : Nat} {fr to tk : Int32} {nm0 : Int64} (hf : f ≤ N) (hs : rsO B N f fr to tk nm0) (hd : d ≤ 10) (wa bl : Int32) {x0 x10 x12 x9 : Nat → Int32} (hob : x0 d = nI b) (hb : b < 90) (h1 : x10 b = 1) (hc : tK B N (tX B N f) = 257) :
    ∃ (fr2 to2 tk2 : Int32) (nm2 : Int64), fX11_closeBlock (nI N) fr to tk nm0 0 wa bl (nI (d + 1)) x0 m x10 x12 x9 = some (0, fr2, to2, tk2, nm2, 1, nI (tX B N f), bl, nI d, x0, x10, x12, x9) := by
  obtain ⟨fr2, to2, tk2, nm2, e, hs2⟩ := r_nxt h hf hs
  have e1 : nI (d + 1) - 1 = nI d := nI_dif (n := d + 1) (k := 1) (by omega)
  refine ⟨fr2, to2, tk2, nm2, ?_⟩
  unfold fX11_closeBlock fX11_closeBlock_p68 fX11_closeBlock_p80
  rw [nm_q, e1, bd_eq _ (inb_nI (j := d) (n := 12) (by omega) (by decide)), nm_q, nI_clamp (n := d) (by omega), hob, e, ob_s, bd_eq _ (inb_nI (j := b) (n := 90) hb (by decide)), nm_q, nI_clamp (n := b) (by omega)]
  obtain ⟨i1, i2, i3, i4⟩ := hs2
  rw [if_pos h1]
  dsimp only
  rw [show fX11_may 1 fr2 tk2 0 wa = some (0, (1, nI (tX B N f))) from by rw [i1, i3, r_may, if_pos hc], ob_s, if_pos rfl, if_neg n10, bd_eq _ (by decide)]
theorem r_cl3 {B : Nat → Nat} {N : Nat} {c m : Nat → Int32} (h : txt B N c m) {f d b bl : Nat} {fr to tk : Int32} {nm0 : Int64} (hf : f ≤ N) (hs : rsO B N f fr to tk nm0) (hd : d ≤ 10) (hbl : bl < 90) (wa : Int32) {x0 x10 x12 x9 : Nat → Int32} (hob : x0 d = nI b) (hb : b < 90) (h1 : x10 b = 1) (hc : tK B N (tX B N f) = 261) :
    ∃ (z fr2 to2 tk2 : Int32) (nm2 : Int64) (wr2 wa2 bl2 op2 : Int32) (bo2 bs2 bt3 ob3 : Nat → Int32), fX11_closeBlock (nI N) fr to tk nm0 0 wa (nI bl) (nI (d + 1)) x0 m x10 x12 x9 = some (z, fr2, to2, tk2, nm2, wr2, wa2, bl2, op2, ob3, bs2, bo2, bt3) ∧
      ((tK B N (tX B N (tX B N f)) = 123 ∧ d < 10 ∧ z = 1 ∧ rsO B N (tX B N (tX B N (tX B N f))) fr2 to2 tk2 nm2 ∧ wr2 = 0 ∧ wa2 = wa ∧ bl2 = nI (bl + 1) ∧ op2 = nI (d + 1) ∧ bo2 = upd x12 bl (x12 b) ∧ bs2 = upd x10 bl 2 ∧ bt3 = upd x9 bl (-1) ∧ ob3 = upd x0 d (nI bl)) ∨
       (z = 0 ∧ ∃ e : Nat × Nat, (tK B N (tX B N (tX B N f)) = 257 ∧ e = (1, tX B N (tX B N f)) ∨ ¬ tK B N (tX B N (tX B N f)) = 257 ∧ opT B N d (tX B N (tX B N f)) = .error e) ∧ wr2 = nI e.1 ∧ wa2 = nI e.2)) := by
  obtain ⟨fr2, to2, tk2, nm2, e, hs2⟩ := r_nxt h hf hs
  have e1 : nI (d + 1) - 1 = nI d := nI_dif (n := d + 1) (k := 1) (by omega)
  have hX := tX_le (B := B) hf
  obtain ⟨fr3, to3, tk3, nm3, e3, hs3⟩ := r_nxt h hX hs2
  obtain ⟨z, fr4, to4, tk4, nm4, wr4, wa4, bl4, op4, bo4, bs4, bt4, ob4, e4, ho⟩ := r_open h (tX_le hX) hs3 hd hbl (x12 b) 2 wa x12 x10 x9 x0
  refine ⟨z, fr4, to4, tk4, nm4, wr4, wa4, bl4, op4, bo4, bs4, bt4, ob4, ?_, ho⟩
  unfold fX11_closeBlock
  rw [nm_q, e1, bd_eq _ (inb_nI (j := d) (n := 12) (by omega) (by decide)), nm_q, nI_clamp (n := d) (by omega), hob, e, ob_s, bd_eq _ (inb_nI (j := b) (n := 90) hb (by decide)), nm_q, nI_clamp (n := b) (by omega)]
  obtain ⟨i1, i2, i3, i4⟩ := hs2
  have ei := r_isThe i4 (i := 2) (by decide)
  rw [kw_m.2.2.1, if_pos hc, ← i3] at ei
  have hzb : bz z = true := by
    rcases ho with ho | ho
    · rw [ho.2.2.1]; decide
    · rw [ho.1]; decide
  rw [if_pos h1]
  dsimp only
  rw [show fX11_may 1 fr2 tk2 0 wa = some (1, (0, wa)) from by rw [i1, i3, r_may, if_neg (by omega), if_neg n10], ob_s, if_neg n10, ei, ob_s, if_neg n10, e3, ob_s, bd_eq _ (inb_nI (j := b) (n := 90) hb (by decide)), nm_q]
  dsimp only
  rw [e4, ob_s, bd_eq _ hzb]
theorem opT_e {B : Nat → Nat} {N d f : Nat} {e : Nat × Nat} (h : opT B N d f = .error e) : 1 ≤ e.1 ∧ e.1 ≤ 9 := by
  unfold opT skT goT at h
  split at h
  · cases h; exact (by decide : 1 ≤ 3 ∧ 3 ≤ 9)
  · split at h
    · split at h
      · cases h; exact (by decide : 1 ≤ 1 ∧ 1 ≤ 9)
      · cases h
    · cases h; exact (by decide : 1 ≤ 2 ∧ 2 ≤ 9)
def bk1 (B : Nat → Nat) (N : Nat) (VN : Nat → List Nat) (g l d f : Nat) (rs1 : Rt) : Rt := match goT B N (tX B N f) with
  | .error e => .error e
  | .ok f1 => match exP B N VN g l f1 with
    | .error e => .error e
    | .ok q => blkR B N d q.2 rs1
def bk2 (B : Nat → Nat) (N d : Nat) (rb1 rs2 : Rt) : Rt := match rb1 with
  | .error e => .error e
  | .ok b1 => blkR B N d (tX B N b1.2.1) rs2
def brX (B : Nat → Nat) (N : Nat) (VN : Nat → List Nat) (g l d par f n kd : Nat) (rs1 rs2 : Rt) : Rt := brR B N VN g l par f n kd (bk1 B N VN g l d f rs1) (bk2 B N d (bk1 B N VN g l d f rs1) rs2)
/-- behind the head -/
def brY (B : Nat → Nat) (N d par f n kd : Nat) (L : List Nat) (rs1 rs2 : Rt) : Rt := match rs1 with
  | .error e => .error e
  | .ok w => match skT B N 125 w.2.1 with
    | .error e => .error e
    | .ok f5 => if kd = 1 ∧ tK B N f5 = 261 then brE B N n kd f par L (w.1, f5, w.2.2) (blkR B N d (tX B N f5) rs2)
      else .ok (w.1, f5, brP n kd f par (if n + 1 < w.1 then n + 1 else 40) 40 w.1 w.2.2.1 w.2.2.1, brL n w.1 L w.2.2.2 w.2.2.2)
theorem brX_hd {B : Nat → Nat} {N : Nat} {VN : Nat → List Nat} {g l d par f n kd : Nat} {rs1 rs2 : Rt} : brX B N VN g l d par f n kd rs1 rs2 = match hdR B N VN g l d f with
    | .error e => .error e
    | .ok x => brY B N d par f n kd x.1 rs1 rs2 := by
  unfold brX brR hdR bk1
  cases hg : goT B N (tX B N f) with
  | error e => rfl
  | ok f1 =>
    dsimp only
    cases hx : exP B N VN g l f1 with
    | error e => rfl
    | ok q =>
      dsimp only
      unfold blkR
      cases ho : opT B N d q.2 with
      | error e => rfl
      | ok f3 =>
        dsimp only
        unfold brY
        cases rs1 with
        | error e => rfl
        | ok w =>
          dsimp only
          cases hs : skT B N 125 w.2.1 with
          | error e => rfl
          | ok f5 => rfl
theorem rwP_4 {kd f par x y els v ca : Nat} : ∀ {a : Nat}, ¬ a = 4 → rwP kd f par x els v ca a = rwP kd f par y els v ca a
  | 0, _ => rfl
  | 1, _ => rfl
  | 2, _ => rfl
  | 3, _ => rfl
  | 4, h => absurd rfl h
  | 5, _ => rfl
  | 6, _ => rfl
  | _ + 7, _ => rfl
theorem rwP_5 {kd f par ins x y v ca : Nat} : ∀ {a : Nat}, ¬ a = 5 → rwP kd f par ins x v ca a = rwP kd f par ins y v ca a
  | 0, _ => rfl
  | 1, _ => rfl
  | 2, _ => rfl
  | 3, _ => rfl
  | 4, _ => rfl
  | 5, h => absurd rfl h
  | 6, _ => rfl
  | _ + 7, _ => rfl
theorem R_br {B : Nat → Nat} {N : Nat} {c m : Nat → Int32} (h : txt B N c m) {VN : Nat → List Nat} {g l p d par f n : Nat} {cg cn : Nat → Int64} {cl : Nat → Int32} (hv : vNm VN g l) (hm : vM VN g l p cg cl cn) (hp : p < 6) (hf : f ≤ N) (hK : ¬ tK B N f = 257) (hn : n < 40) (hb : bgS (tK B N f)) {kd : Nat} (hkd : kdT (tK B N f) = kd) (h12 : kd = 1 ∨ kd = 2) {rs1 rs2 : Rt}
    (h1 : ∀ L f3, hdR B N VN g l d f = .ok (L, f3) → d < 10 ∧ f < f3 ∧ f3 ≤ N ∧ RX B N m g cg cn cl p false (d + 1) n f3 (n + 1) rs1 ∧ ∀ w, rs1 = .ok w → n + 1 ≤ w.1 ∧ w.1 ≤ 40 ∧ ¬ tK B N w.2.1 = 257 ∧ ¬ bgS (tK B N w.2.1) ∧ f3 ≤ w.2.1 ∧ w.2.1 ≤ N)
    (h2 : ∀ L f3 w f7, hdR B N VN g l d f = .ok (L, f3) → rs1 = .ok w → kd = 1 → tK B N (tX B N w.2.1) = 261 → opT B N d (tX B N (tX B N w.2.1)) = .ok f7 → RX B N m g cg cn cl p false (d + 1) n f7 w.1 rs2 ∧ ∀ w2, rs2 = .ok w2 → w.1 ≤ w2.1 ∧ w2.1 ≤ 40 ∧ ¬ tK B N w2.2.1 = 257 ∧ ¬ bgS (tK B N w2.2.1) ∧ f7 ≤ w2.2.1 ∧ w2.2.1 ≤ N) :
    RX B N m g cg cn cl p true d par f n (brX B N VN g l d par f n kd rs1 rs2) := by
  intro u b bl k j pr wa os dd fr to tk nm0 c2 Q M hs hpre hu
  obtain ⟨u, rfl⟩ : ∃ v, u = v + 3 := ⟨u - 3, by omega⟩
  obtain ⟨z, fr2, to2, tk2, nm2, wr2, wa2, st2, cd2, bl2, op2, os2, dd2, U0, e, ho⟩ := r_head h hv hm hp hf hs hpre wa os dd hK hn hb hkd h12
  rw [r_it h hs hK (fun w => by unfold bgS at hb; omega) hpre.2.2.2.2.1 hpre.2.2.2.2.2.1 (u + 2) (nI p) wa (nI g) pr (nI n) (nI Q.length) (nI bl) os dd c2 cl cg cn M e, brX_hd]
  cases hhd : hdR B N VN g l d f with
  | error e1 =>
    rw [hhd] at ho
    exact r_lpB u (nI N) m (nI p) nm2 (nI g) pr st2 cd2 bl2 os2 dd2 c2 cl cg cn U0 ho
  | ok x =>
    rw [hhd] at ho
    obtain ⟨o1, o2, o3, o4, o5, o6, o7, o8, V, o9, hV⟩ := ho
    obtain ⟨k1, k2, k3, k4, k5⟩ := h1 x.1 x.2 hhd
    subst o1 o3 o4 o5 o6 o7 o8 o9
    obtain ⟨p1, p2, p3, p4, p5, p6, p7, p8, p9⟩ := hpre
    have hV0 := hV
    obtain ⟨a1, a2, a3, a4, a5, ⟨a6, a6f⟩, ⟨a7, a7o⟩, a8, a9⟩ := hV
    have a3 : (Q ++ x.1).length ≤ x.2 := a3
    have hkn : V.2.1 n = nI kd := (a9 n (Nat.le_refl _) (Nat.lt_succ_self n)).1
    have srt13 : (if kd = 1 then (1 : Int32) else 3) = 1 ∨ (if kd = 1 then (1 : Int32) else 3) = 3 := by
      by_cases q : kd = 1
      · rw [if_pos q]; exact Or.inl rfl
      · rw [if_neg q]; exact Or.inr rfl
    have pre1 : rPre p (d + 1) bl (bl + 1) n x.2 (n + 1) 4 n (Q ++ x.1) (opn V bl d (nI n) (if kd = 1 then 1 else 3)) := by
      refine ⟨a1, a3, Nat.lt_succ_self _, by omega, by omega, by omega, upd_at _ _ _, Or.inr (Or.inr (Or.inr ⟨rfl, Nat.lt_succ_self n, upd_at _ _ _, ?_, upd_at _ _ _⟩)), Or.inr ⟨Nat.lt_succ_self n, upd_at _ _ _, ?_⟩⟩
      · unfold opn
        dsimp only
        rw [upd_at]
        exact srt13
      · unfold opn
        dsimp only
        rw [upd_at, hkn]
        rcases h12 with q | q
        · rw [if_pos q]
          exact Or.inr ⟨congrArg nI q, Or.inl rfl⟩
        · rw [if_neg (by omega)]
          exact Or.inl ⟨congrArg nI q, rfl⟩
    rw [if_neg n10]
    have r1 := k4 (u + 2) bl (bl + 1) 4 n pr wa2 os2 dd2 fr2 to2 tk2 nm2 c2 (Q ++ x.1) (opn V bl d (nI n) (if kd = 1 then 1 else 3)) o2 pre1 (by omega)
    dsimp only
    unfold brY
    cases rs1 with
    | error e1 => exact r1
    | ok w =>
      obtain ⟨u3, fr3, to3, tk3, nm3, os3, dd3, Q3, bn, U, y1, y2, y3, y4⟩ := r1
      obtain ⟨w1, w2, w3, w4, w5, w6⟩ := k5 w rfl
      rw [y1]
      obtain ⟨u3, rfl⟩ : ∃ v, u3 = v + 3 := ⟨u3 - 3, by omega⟩
      have y40 := y4
      obtain ⟨g1, g2, g3, g4, g5, ⟨g6, g6f⟩, ⟨g7, g7o⟩, g8, g9⟩ := y4
      dsimp only
      unfold skT
      by_cases h125 : tK B N w.2.1 = 125
      · rw [if_pos h125]
        have hX := tX_le (B := B) w6
        have hXlt := tX_gt (B := B) w6 (by omega)
        have ob : U.1 d = nI bl := (g7o d (by omega)).trans (upd_at _ _ _)
        have bs : U.2.2.2.2.2.2.2.2.2.2.1 bl = (if kd = 1 then 1 else 3) := (g7 bl (by omega)).1.trans (upd_at _ _ _)
        have bo : U.2.2.2.2.2.2.2.2.2.2.2.2.1 bl = nI n := (g7 bl (by omega)).2.1.trans (upd_at _ _ _)
        have hUn : U.2.1 n = nI kd := (g6 n (by omega)).1.trans hkn
        -- what stands behind the first block
        have post1 : rPost B N p d b bl n k j true Q M (w.1, tX B N w.2.1, brP n kd f par (if n + 1 < w.1 then n + 1 else 40) 40 w.1 w.2.2.1 w.2.2.1, brL n w.1 x.1 w.2.2.2 w.2.2.2) Q3 bn U := by
          refine post_two (one2 := true) hV0 y40 (Nat.lt_succ_self n) w1 w2 (Or.inr (Or.inl rfl)) rfl rfl rfl rfl rfl rfl rfl rfl rfl rfl rfl rfl (fun y hy => ⟨upd_ne (show y ≠ bl by omega), upd_ne (show y ≠ bl by omega)⟩) (by omega) (by omega) (fun i hi => upd_ne (show i ≠ d by omega)) (fun y hy hyb => ((g7 y (by omega)).2.2 (by omega)).trans (upd_ne (show y ≠ bl by omega))) (fun _ => (((g7 b (by omega)).2.2 (by omega)).trans (upd_ne (show b ≠ bl by omega))).trans (a8 rfl)) (by omega) (by omega) (fun a => ?_) ?_ rfl (fun s s1 s2 a => ?_) (fun s s1 s2 a => ?_) (fun s s1 s2 => ?_) (fun s s1 s2 => ?_)
          · by_cases ha : a = 4
            · exact Or.inl ha
            · refine Or.inr ?_
              unfold brP
              rw [if_pos rfl]
              exact rwP_4 ha
          · unfold brP
            rw [if_pos rfl]
            rfl
          · dsimp only at s2; omega
          · unfold brP
            dsimp only at s1
            rw [if_neg (by omega), if_pos s2]
          · unfold brL
            dsimp only at s2
            rw [if_pos (by omega)]
          · unfold brL
            dsimp only at s1
            rw [if_neg (by omega), if_pos s2]
        unfold goT
        by_cases h257 : tK B N (tX B N w.2.1) = 257
        · rw [if_pos h257]
          rcases h12 with q | q
          · obtain ⟨fr4, to4, tk4, nm4, e4⟩ := r_cl2 h w6 y2 p6 wa2 (nI bn) (x0 := U.1) (x10 := U.2.2.2.2.2.2.2.2.2.2.1) (x12 := U.2.2.2.2.2.2.2.2.2.2.2.2.1) (x9 := U.2.2.2.2.2.2.2.2.2.1) ob (show bl < 90 by omega) (by rw [bs, if_pos q]) h257
            rw [r_itC h y2 h125 (by omega) (by omega) (u3 + 2) (nI p) wa2 (nI g) pr (nI w.1) (nI Q3.length) (nI bn) os3 dd3 c2 cl cg cn U e4]
            exact r_lpB u3 (nI N) m (nI p) nm4 (nI g) pr (nI w.1) (nI Q3.length) (nI bn) os3 dd3 c2 cl cg cn _ (Or.inl ⟨rfl, (by decide : (1 : Int32) = nI 1), rfl, n10⟩)
          · obtain ⟨fr4, to4, tk4, nm4, e4, hs4⟩ := r_cl1 h w6 y2 p6 wa2 (nI bn) (x0 := U.1) (x10 := U.2.2.2.2.2.2.2.2.2.2.1) (x12 := U.2.2.2.2.2.2.2.2.2.2.2.2.1) (x9 := U.2.2.2.2.2.2.2.2.2.1) ob (show bl < 90 by omega) (Or.inl (by rw [bs, if_neg (by omega)]; decide))
            rw [r_itC h y2 h125 (by omega) (by omega) (u3 + 2) (nI p) wa2 (nI g) pr (nI w.1) (nI Q3.length) (nI bn) os3 dd3 c2 cl cg cn U e4]
            exact r_lpB u3 (nI N) m (nI p) nm4 (nI g) pr (nI w.1) (nI Q3.length) (nI bn) os3 dd3 c2 cl cg cn _ (Or.inr ⟨rfl, rfl, hs4.1, by rw [hs4.2.2.1, h257]; decide, rfl, d, p5, by omega, rfl⟩)
        · rw [if_neg h257]
          dsimp only
          by_cases hel : kd = 1 ∧ tK B N (tX B N w.2.1) = 261
          · rw [if_pos hel]
            obtain ⟨z4, fr4, to4, tk4, nm4, wr4, wa4, bl4, op4, bo4, bs4, bt4, ob4, e4, ho4⟩ := r_cl3 h w6 y2 p6 (show bn < 90 by omega) wa2 (x0 := U.1) (x10 := U.2.2.2.2.2.2.2.2.2.2.1) (x12 := U.2.2.2.2.2.2.2.2.2.2.2.2.1) (x9 := U.2.2.2.2.2.2.2.2.2.1) ob (show bl < 90 by omega) (by rw [bs, if_pos hel.1]) hel.2
            rw [r_itC h y2 h125 (by omega) (by omega) (u3 + 2) (nI p) wa2 (nI g) pr (nI w.1) (nI Q3.length) (nI bn) os3 dd3 c2 cl cg cn U e4]
            have hX2 := tX_le (B := B) hX
            have hXlt2 := tX_gt (B := B) hX (by omega)
            unfold brE blkR
            dsimp only
            rcases ho4 with ⟨i1, i2, i3, i4, i5, i6, i7, i8, i9, i10, i11, i12⟩ | ⟨i1, e5, i2, i3, i4⟩
            · have hg6 : goT B N (tX B N (tX B N w.2.1)) = .ok (tX B N (tX B N w.2.1)) := by unfold goT; rw [if_neg (by omega)]
              rw [hg6]
              dsimp only
              have hop : opT B N d (tX B N (tX B N w.2.1)) = goT B N (tX B N (tX B N (tX B N w.2.1))) := by
                unfold opT skT
                rw [if_neg (fun w => absurd w.2 (by omega)), if_pos i1]
              rw [hop]
              have hX3 := tX_le (B := B) hX2
              have hXlt3 := tX_gt (B := B) hX2 (by omega)
              subst i3 i5 i6 i7 i8 i9 i10 i11 i12
              by_cases h257b : tK B N (tX B N (tX B N (tX B N w.2.1))) = 257
              · have hg7 : goT B N (tX B N (tX B N (tX B N w.2.1))) = .error (1, tX B N (tX B N (tX B N w.2.1))) := by unfold goT; rw [if_pos h257b]
                rw [hg7]
                exact r_lpB u3 (nI N) m (nI p) nm4 (nI g) pr (nI w.1) (nI Q3.length) (nI (bn + 1)) os3 dd3 c2 cl cg cn _ (Or.inr ⟨rfl, rfl, i4.1, by rw [i4.2.2.1, h257b]; decide, rfl, d + 1, by omega, by omega, rfl⟩)
              · have hg7 : goT B N (tX B N (tX B N (tX B N w.2.1))) = .ok (tX B N (tX B N (tX B N w.2.1))) := by unfold goT; rw [if_neg h257b]
                rw [hg7, if_neg n10]
                obtain ⟨l1, l2⟩ := h2 x.1 x.2 w (tX B N (tX B N (tX B N w.2.1))) hhd rfl hel.1 hel.2 (hop.trans hg7)
                have pre2 : rPre p (d + 1) bn (bn + 1) n (tX B N (tX B N (tX B N w.2.1))) w.1 5 n Q3 (opn U bn d (U.2.2.2.2.2.2.2.2.2.2.2.2.1 bl) 2) := by
                  refine ⟨g1, by omega, Nat.lt_succ_self _, by omega, by omega, by omega, upd_at _ _ _, Or.inr (Or.inr (Or.inl ⟨rfl, by omega, upd_at _ _ _, upd_at _ _ _, (upd_at _ _ _).trans bo⟩)), Or.inr ⟨by omega, (upd_at _ _ _).trans bo, Or.inr ⟨hUn.trans (congrArg nI hel.1), Or.inr (upd_at _ _ _)⟩⟩⟩
                have r2 := l1 (u3 + 2) bn (bn + 1) 5 n pr wa4 os3 dd3 fr4 to4 tk4 nm4 c2 Q3 (opn U bn d (U.2.2.2.2.2.2.2.2.2.2.2.2.1 bl) 2) i4 pre2 (by omega)
                dsimp only
                cases rs2 with
                | error e2 => exact r2
                | ok v =>
                  obtain ⟨u5, fr5, to5, tk5, nm5, os5, dd5, Q5, b5, Y, z1, z2, z3, z4⟩ := r2
                  obtain ⟨v1, v2, v3, v4, v5, v6⟩ := l2 v rfl
                  have z1' : rLp (u3 + 2) (nI N) m (nI p) 1 fr4 to4 tk4 nm4 0 wa4 (nI g) pr (nI w.1) (nI Q3.length) (nI (bn + 1)) (nI (d + 1)) os3 dd3 c2 cl cg cn (upd U.1 d (nI bn), U.2.1, U.2.2.1, U.2.2.2.1, U.2.2.2.2.1, U.2.2.2.2.2.1, U.2.2.2.2.2.2.1, U.2.2.2.2.2.2.2.1, U.2.2.2.2.2.2.2.2.1, upd U.2.2.2.2.2.2.2.2.2.1 bn (-1), upd U.2.2.2.2.2.2.2.2.2.2.1 bn 2, U.2.2.2.2.2.2.2.2.2.2.2.1, upd U.2.2.2.2.2.2.2.2.2.2.2.2.1 bn (U.2.2.2.2.2.2.2.2.2.2.2.2.1 bl), U.2.2.2.2.2.2.2.2.2.2.2.2.2.1, U.2.2.2.2.2.2.2.2.2.2.2.2.2.2.1, U.2.2.2.2.2.2.2.2.2.2.2.2.2.2.2.1, U.2.2.2.2.2.2.2.2.2.2.2.2.2.2.2.2.1, U.2.2.2.2.2.2.2.2.2.2.2.2.2.2.2.2.2) = rLp u5 (nI N) m (nI p) 1 fr5 to5 tk5 nm5 0 wa4 (nI g) pr (nI v.1) (nI Q5.length) (nI b5) (nI (d + 1)) os5 dd5 c2 cl cg cn Y := z1
                  rw [z1']
                  obtain ⟨u5, rfl⟩ : ∃ v, u5 = v + 3 := ⟨u5 - 3, by omega⟩
                  have z40 := z4
                  obtain ⟨j1, j2, j3, j4, j5, ⟨j6, j6f⟩, ⟨j7, j7o⟩, j8, j9⟩ := z4
                  dsimp only
                  unfold skT
                  by_cases h125b : tK B N v.2.1 = 125
                  · rw [if_pos h125b]
                    have hXlt5 := tX_gt (B := B) v6 (by omega)
                    have hX5 := tX_le (B := B) v6
                    have ob2 : Y.1 d = nI bn := (j7o d (by omega)).trans (upd_at _ _ _)
                    have bs2 : Y.2.2.2.2.2.2.2.2.2.2.1 bn = 2 := (j7 bn (by omega)).1.trans (upd_at _ _ _)
                    obtain ⟨fr6, to6, tk6, nm6, e6, hs6⟩ := r_cl1 h v6 z2 p6 wa4 (nI b5) (x0 := Y.1) (x10 := Y.2.2.2.2.2.2.2.2.2.2.1) (x12 := Y.2.2.2.2.2.2.2.2.2.2.2.2.1) (x9 := Y.2.2.2.2.2.2.2.2.2.1) ob2 (show bn < 90 by omega) (Or.inl (by rw [bs2]; decide))
                    rw [r_itC h z2 h125b (by omega) (by omega) (u5 + 2) (nI p) wa4 (nI g) pr (nI v.1) (nI Q5.length) (nI b5) os5 dd5 c2 cl cg cn Y e6]
                    unfold goT
                    by_cases h257c : tK B N (tX B N v.2.1) = 257
                    · rw [if_pos h257c]
                      exact r_lpB u5 (nI N) m (nI p) nm6 (nI g) pr (nI v.1) (nI Q5.length) (nI b5) os5 dd5 c2 cl cg cn _ (Or.inr ⟨rfl, rfl, hs6.1, by rw [hs6.2.2.1, h257c]; decide, rfl, d, p5, by omega, rfl⟩)
                    · rw [if_neg h257c, if_neg n10]
                      refine ⟨u5 + 2, fr6, to6, tk6, nm6, os5, dd5, Q5, b5, Y, rfl, hs6, by show N - tX B N v.2.1 + 3 ≤ u5 + 2; omega, ?_⟩
                      dsimp only
                      refine post_two (one2 := true) post1 z40 (show n < w.1 by omega) v1 v2 (Or.inr (Or.inr rfl)) rfl rfl rfl rfl rfl rfl rfl rfl rfl rfl rfl rfl (fun y hy => ⟨upd_ne (show y ≠ bn by omega), upd_ne (show y ≠ bn by omega)⟩) (by omega) (by omega) (fun i hi => upd_ne (show i ≠ d by omega)) (fun y hy hyb => ((j7 y (by omega)).2.2 (by omega)).trans (upd_ne (show y ≠ bn by omega))) (fun _ => (((j7 b (by omega)).2.2 (by omega)).trans (upd_ne (show b ≠ bn by omega))).trans (((g7 b (by omega)).2.2 (by omega)).trans ((upd_ne (show b ≠ bl by omega)).trans (a8 rfl)))) (by omega) (by omega) (fun a => ?_) ?_ ?_ (fun s s1 s2 a => ?_) (fun s s1 s2 a => ?_) (fun s s1 s2 => ?_) (fun s s1 s2 => ?_)
                      · by_cases ha : a = 5
                        · exact Or.inl ha
                        · refine Or.inr ?_
                          dsimp only [brP]
                          rw [if_pos rfl, if_pos rfl]
                          exact rwP_5 ha
                      · unfold brP
                        rw [if_pos rfl]
                        rfl
                      · dsimp only [brP]
                        rw [if_pos rfl]
                        rfl
                      · dsimp only [brP] at s2 ⊢
                        rw [if_neg (show ¬ s = n by omega), if_pos s2, if_neg (show ¬ s = n by omega), if_pos s2]
                      · dsimp only [brP] at s1 ⊢
                        rw [if_neg (by omega), if_neg (by omega)]
                      · dsimp only [brL] at s2 ⊢
                        by_cases hsn : s = n
                        · rw [if_pos hsn, if_pos hsn]
                        · rw [if_neg hsn, if_neg hsn, if_pos s2, if_pos s2]
                      · dsimp only [brL] at s1 ⊢
                        rw [if_neg (by omega), if_neg (by omega)]
                  · rw [if_neg h125b]
                    exact r_itE h z2 v3 h125b v4 (by omega) (by omega) u5 (nI p) wa4 (nI g) pr (nI v.1) (nI Q5.length) (nI b5) os5 dd5 c2 cl cg cn Y
            · rw [i1]
              have key : ∀ r : Rt, r = .error e5 → rOut B N m g cg cn cl p true d b bl n k j pr wa2 c2 Q M r (rLp (u3 + 2) (nI N) m (nI p) (if (0 : Int32) = 0 then 0 else 1) fr4 to4 tk4 nm4 wr4 wa4 (nI g) pr (nI w.1) (nI Q3.length) bl4 op4 os3 dd3 c2 cl cg cn (ob4, U.2.1, U.2.2.1, U.2.2.2.1, U.2.2.2.2.1, U.2.2.2.2.2.1, U.2.2.2.2.2.2.1, U.2.2.2.2.2.2.2.1, U.2.2.2.2.2.2.2.2.1, bt4, bs4, U.2.2.2.2.2.2.2.2.2.2.2.1, bo4, U.2.2.2.2.2.2.2.2.2.2.2.2.2.1, U.2.2.2.2.2.2.2.2.2.2.2.2.2.2.1, U.2.2.2.2.2.2.2.2.2.2.2.2.2.2.2.1, U.2.2.2.2.2.2.2.2.2.2.2.2.2.2.2.2.1, U.2.2.2.2.2.2.2.2.2.2.2.2.2.2.2.2.2)) := by
                intro r hr
                subst hr
                have he : 1 ≤ e5.1 ∧ e5.1 ≤ 9 := by
                  rcases i2 with ⟨q1, q2⟩ | ⟨q1, q2⟩
                  · rw [q2]; exact (by decide : 1 ≤ 1 ∧ 1 ≤ 9)
                  · exact opT_e q2
                exact r_lpB u3 (nI N) m (nI p) nm4 (nI g) pr (nI w.1) (nI Q3.length) bl4 os3 dd3 c2 cl cg cn _ (Or.inl ⟨rfl, i3, i4, by rw [i3]; exact fun w => absurd ((nI_eq (a := e5.1) (b := 0) (by omega) (by decide)).mp w) (by omega)⟩)
              refine key _ ?_
              rcases i2 with ⟨q1, q2⟩ | ⟨q1, q2⟩
              · have hg6 : goT B N (tX B N (tX B N w.2.1)) = .error (1, tX B N (tX B N w.2.1)) := by unfold goT; rw [if_pos q1]
                rw [hg6, q2]
              · have hg6 : goT B N (tX B N (tX B N w.2.1)) = .ok (tX B N (tX B N w.2.1)) := by unfold goT; rw [if_neg q1]
                rw [hg6, q2]
          · rw [if_neg hel]
            have hc : ¬ U.2.2.2.2.2.2.2.2.2.2.1 bl = 1 ∨ (¬ tK B N (tX B N w.2.1) = 257 ∧ ¬ tK B N (tX B N w.2.1) = 261) := by
              by_cases q : kd = 1
              · exact Or.inr ⟨h257, fun z => hel ⟨q, z⟩⟩
              · exact Or.inl (by rw [bs, if_neg q]; decide)
            obtain ⟨fr4, to4, tk4, nm4, e4, hs4⟩ := r_cl1 h w6 y2 p6 wa2 (nI bn) (x0 := U.1) (x10 := U.2.2.2.2.2.2.2.2.2.2.1) (x12 := U.2.2.2.2.2.2.2.2.2.2.2.2.1) (x9 := U.2.2.2.2.2.2.2.2.2.1) ob (show bl < 90 by omega) hc
            rw [r_itC h y2 h125 (by omega) (by omega) (u3 + 2) (nI p) wa2 (nI g) pr (nI w.1) (nI Q3.length) (nI bn) os3 dd3 c2 cl cg cn U e4, if_neg n10]
            exact ⟨u3 + 2, fr4, to4, tk4, nm4, os3, dd3, Q3, bn, U, rfl, hs4, by show N - tX B N w.2.1 + 3 ≤ u3 + 2; omega, post1⟩
      · rw [if_neg h125]
        exact r_itE h y2 w3 h125 w4 (by omega) (by omega) u3 (nI p) wa2 (nI g) pr (nI w.1) (nI Q3.length) (nI bn) os3 dd3 c2 cl cg cn U
