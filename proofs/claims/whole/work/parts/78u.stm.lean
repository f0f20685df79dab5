/-! ===== pure rows 97: statements: class and reference read the same ===== -/
theorem st_kd {k kd : Nat} (hb : bgS k) (h : kdT k = kd) : kd ≤ 7 ∧ (kd = 0 ↔ k = 258) := by
  unfold kdT at h
  unfold bgS at hb
  by_cases q : k = 258
  · rw [if_pos q] at h; omega
  · rw [if_neg q] at h; omega
theorem all_st {B : Nat → Nat} {N : Nat} {c m : Nat → Int32} (h : txt B N c m) {VN : Nat → List Nat} {g l p : Nat} {c14 cg cn : Nat → Int64} {cl : Nat → Int32} (hv : vNm VN g l) (hc : vC VN g l c14) (hm : vM VN g l p cg cl cn) (hp : p < 6) : ∀ (z kc d par f n : Nat), N - f < z → f ≤ N → ¬ tK B N f = 257 → 1 ≤ d → d ≤ 10 → 10 ≤ kc + d → n ≤ 40 →
    (bgS (tK B N f) → ∃ r, okMm B N par f n r ∧ CM B N c c14 g l p kc d par f n r ∧ RX B N m g cg cn cl p true d par f n r) ∧ ∃ r, okS B N par f n r ∧ CL B N c c14 g l p kc d par f n r ∧ RX B N m g cg cn cl p false d par f n r := by
  intro z
  induction z with
  | zero => intro kc d par f n hz; omega
  | succ z ih =>
    intro kc d par f n hz hf hK hd hd2 hkc hn
    have A : bgS (tK B N f) → ∃ r, okMm B N par f n r ∧ CM B N c c14 g l p kc d par f n r ∧ RX B N m g cg cn cl p true d par f n r := by
      intro hb
      have h256 : ¬ tK B N f = 256 := fun w => by unfold bgS at hb; omega
      have hXlt := tX_gt hf h256
      have hX := tX_le (B := B) hf
      by_cases hn40 : n = 40
      · subst hn40
        exact ⟨.error (3, f), fun q hq => (by cases hq), c_stm40 (VN := VN) (m := m) h (n := 40) hb, R_one h hK hb (fun q hq => by cases hq) (fun b bl k j wa os dd fr to tk nm0 Q M hs hpre => r_ts40 h hv hm hp hf hs hpre wa os dd hK rfl hb)⟩
      · have hn' : n < 40 := by omega
        obtain ⟨kd, hkd⟩ : ∃ kd, kdT (tK B N f) = kd := ⟨_, rfl⟩
        obtain ⟨hk7, hk0⟩ := st_kd hb hkd
        have hcase : kd = 0 ∨ (kd = 1 ∨ kd = 2) ∨ kd = 3 ∨ (kd = 4 ∨ kd = 5) ∨ (kd = 6 ∨ kd = 7) := by omega
        rcases hcase with q | q | q | q | q
        · have h258 := hk0.mp q
          have cA := c_stmA (k := kc) (d := d) (par := par) (p := p) h hv hc hn' h258
          by_cases h5 : vIx VN g l (wj B f (tL B N f)) = 5
          · have e : asR B N VN g l par f n = .error (3, f) := by unfold asR; rw [if_pos h5]
            rw [e] at cA
            exact ⟨.error (3, f), fun q hq => (by cases hq), cA, R_one h hK hb (fun q hq => by cases hq) (fun b bl k j wa os dd fr to tk nm0 Q M hs hpre => r_tsN h hv hm hp hf hs hpre wa os dd hK hn' h258 h5)⟩
          · have hok : okMm B N par f n (asR B N VN g l par f n) := by
              unfold asR
              rw [if_neg h5]
              cases hb1 : bnd (goT B N (tX B N f)) (skT B N 61) with
              | error e => intro q hq; cases hq
              | ok f1 =>
                obtain ⟨x0, y1, y2⟩ := bnd_ok hb1
                obtain ⟨y3, -⟩ := goT_ok y1
                subst y3
                obtain ⟨y4, y5, y6⟩ := skT_ok y2
                subst y5
                have l1 := tX_gt (B := B) hX (by omega)
                have l2 := tX_le (B := B) hX
                dsimp only
                cases hx : exP B N VN g l (tX B N (tX B N f)) with
                | error e => intro q hq; cases hq
                | ok q2 =>
                  obtain ⟨x1, x2, x3, x4⟩ := exP_ok l2 hx
                  have hle := vIx_le VN g l (wj B f (tL B N f)) hv.1 hv.2.1
                  refine ok_one hn' hf (by decide) (fun _ => by omega) (fun f2 hf2 => ?_)
                  obtain ⟨t1, t2, t3⟩ := skT_ok hf2
                  subst t2
                  have l3 := tX_gt (B := B) x2 (by omega)
                  have l4 := tX_le (B := B) x2
                  exact ⟨by omega, l4, t3, fun w => absurd w (by decide), fun _ => x4, fun w => absurd w (by decide)⟩
            exact ⟨_, hok, cA, R_one h hK hb (fun q hq => ⟨(hok q hq).2.2.1, (hok q hq).2.2.2.1⟩) (fun b bl k j wa os dd fr to tk nm0 Q M hs hpre => r_stmA h hv hm hp hf hs hpre wa os dd hn' h258 h5)⟩
        · -- if and while
          have hE : ∃ rs1 : Rt, ∀ L f3, hdR B N VN g l d f = .ok (L, f3) → okS B N n f3 (n + 1) rs1 ∧ CS B N c c14 g l p kc (d + 1) n f3 (n + 1) rs1 ∧ RX B N m g cg cn cl p false (d + 1) n f3 (n + 1) rs1 := by
            cases hhd : hdR B N VN g l d f with
            | error e => exact ⟨.error (9, 9), fun L f3 w => by cases w⟩
            | ok x =>
              obtain ⟨k1, k2, k3, k4, k5, -⟩ := hd_ok hf h256 (L := x.1) (f3 := x.2) hhd
              obtain ⟨kc', rfl⟩ : ∃ v, kc = v + 1 := ⟨kc - 1, by omega⟩
              obtain ⟨rs, a1, a2, a3⟩ := (ih kc' (d + 1) n x.2 (n + 1) (by omega) k3 k4 (by omega) (by omega) (by omega) (by omega)).2
              refine ⟨rs, fun L f3 w => ?_⟩
              cases w
              exact ⟨a1, c_sts (by omega) (fun q hq => (a1 q hq).2.1) a2, a3⟩
          obtain ⟨rs1, hrs1⟩ := hE
          have hE2 : ∃ rs2 : Rt, ∀ L f3 w f7, hdR B N VN g l d f = .ok (L, f3) → rs1 = .ok w → kd = 1 → tK B N (tX B N w.2.1) = 261 → opT B N d (tX B N (tX B N w.2.1)) = .ok f7 → okS B N n f7 w.1 rs2 ∧ CS B N c c14 g l p kc (d + 1) n f7 w.1 rs2 ∧ RX B N m g cg cn cl p false (d + 1) n f7 w.1 rs2 := by
            by_cases hx : ∃ L f3 w f7, hdR B N VN g l d f = .ok (L, f3) ∧ rs1 = .ok w ∧ kd = 1 ∧ tK B N (tX B N w.2.1) = 261 ∧ opT B N d (tX B N (tX B N w.2.1)) = .ok f7
            · obtain ⟨L, f3, w, f7, x1, x2, x3, x4, x5⟩ := hx
              obtain ⟨k1, k2, k3, k4, k5, -⟩ := hd_ok hf h256 x1
              obtain ⟨b1, b2, b3, b4, b5, b6, b7⟩ := (hrs1 L f3 x1).1 w x2
              obtain ⟨o1, o2, o3, o4⟩ := opT_ok x5
              have m1 : w.2.1 ≤ tX B N w.2.1 := by
                by_cases w256 : tK B N w.2.1 = 256
                · have := (tF_le (B := B) (tE_le (B := B) b4).1).2
                  have := (tE_le (B := B) b4).2.1
                  unfold tX
                  omega
                · exact Nat.le_of_lt (tX_gt b4 w256)
              have m2 := tX_le (B := B) b4
              have m3 := tX_gt (B := B) m2 (by omega)
              have m4 := tX_le (B := B) m2
              have m5 := tX_gt (B := B) m4 (by omega)
              have m6 := tX_le (B := B) m4
              subst o3
              obtain ⟨kc', rfl⟩ : ∃ v, kc = v + 1 := ⟨kc - 1, by omega⟩
              obtain ⟨rs, a1, a2, a3⟩ := (ih kc' (d + 1) n (tX B N (tX B N (tX B N w.2.1))) w.1 (by omega) m6 o4 (by omega) (by omega) (by omega) (by omega)).2
              refine ⟨rs, fun L' f3' w' f7' y1 y2 y3 y4 y5 => ?_⟩
              rw [x2] at y2
              cases y2
              rw [x5] at y5
              cases y5
              exact ⟨a1, c_sts (by omega) (fun q hq => (a1 q hq).2.1) a2, a3⟩
            · exact ⟨.error (9, 9), fun L f3 w f7 y1 y2 y3 y4 y5 => absurd ⟨L, f3, w, f7, y1, y2, y3, y4, y5⟩ hx⟩
          obtain ⟨rs2, hrs2⟩ := hE2
          have hok : okMm B N par f n (brX B N VN g l d par f n kd rs1 rs2) := by
            cases hhd : hdR B N VN g l d f with
            | error e =>
              intro q hq
              rw [brX_hd, hhd] at hq
              cases hq
            | ok x => exact ok_br hf h256 hn' q (fun L f3 w => (hrs1 L f3 w).1) (fun w f7 y2 y3 y4 y5 => (hrs2 x.1 x.2 w f7 hhd y2 y3 y4 y5).1)
          refine ⟨brX B N VN g l d par f n kd rs1 rs2, hok, ?_, ?_⟩
          · refine c_stmB h hv hc hn' hd2 (fun w => by omega) hb hkd q (fun f1 q1 y1 y2 => ?_) (fun b1 y1 => ?_)
            · have e : bk1 B N VN g l d f rs1 = blkR B N d q1.2 rs1 := by
                unfold bk1
                rw [y1]
                dsimp only
                rw [y2]
              rw [e]
              refine c_blk h hd2 (fun w => by omega) (fun w f3 y3 => ?_)
              have hhd : hdR B N VN g l d f = .ok (q1.1, f3) := by
                unfold hdR
                rw [y1]
                dsimp only
                rw [y2]
                dsimp only
                rw [y3]
              exact (hrs1 _ _ hhd).2.1
            · -- behind the first block
              unfold bk1 at y1
              cases hg : goT B N (tX B N f) with
              | error e => rw [hg] at y1; cases y1
              | ok f1 =>
                rw [hg] at y1
                dsimp only at y1
                cases hx : exP B N VN g l f1 with
                | error e => rw [hx] at y1; cases y1
                | ok q1 =>
                  rw [hx] at y1
                  dsimp only at y1
                  have e : bk1 B N VN g l d f rs1 = .ok b1 := by
                    unfold bk1
                    rw [hg]
                    dsimp only
                    rw [hx]
                    exact y1
                  unfold blkR at y1
                  cases ho : opT B N d q1.2 with
                  | error e => rw [ho] at y1; cases y1
                  | ok f3 =>
                    have hhd : hdR B N VN g l d f = .ok (q1.1, f3) := by
                      unfold hdR
                      rw [hg]
                      dsimp only
                      rw [hx]
                      dsimp only
                      rw [ho]
                    rw [ho] at y1
                    dsimp only at y1
                    cases hr : rs1 with
                    | error e => rw [hr] at y1; cases y1
                    | ok w =>
                      rw [hr] at y1
                      dsimp only at y1
                      cases hsk : skT B N 125 w.2.1 with
                      | error e => rw [hsk] at y1; cases y1
                      | ok f5 =>
                        rw [hsk] at y1
                        cases y1
                        obtain ⟨a1, a2, a3, a4, a5, a6, a7⟩ := (hrs1 _ _ hhd).1 w hr
                        obtain ⟨s1, s2, s3⟩ := skT_ok hsk
                        subst s2
                        refine ⟨a1, a2, fun f3' y3 y4 y5 => ?_⟩
                        obtain ⟨y6, -⟩ := goT_ok y5
                        subst y6
                        have e2 : bk2 B N d (bk1 B N VN g l d f rs1) rs2 = blkR B N d (tX B N (tX B N w.2.1)) rs2 := by
                          unfold bk2
                          rw [e]
                        rw [← hr, e2]
                        refine ⟨c_blk h hd2 (fun w => by omega) (fun w7 f7 y7 => (hrs2 _ _ w f7 hhd hr y3 y4 y7).2.1), fun b2 y8 => ?_⟩
                        unfold blkR at y8
                        cases ho7 : opT B N d (tX B N (tX B N w.2.1)) with
                        | error e => rw [ho7] at y8; cases y8
                        | ok f7 =>
                          rw [ho7] at y8
                          dsimp only at y8
                          cases hr2 : rs2 with
                          | error e => rw [hr2] at y8; cases y8
                          | ok w2 =>
                            rw [hr2] at y8
                            dsimp only at y8
                            obtain ⟨c1, c2, -⟩ := (hrs2 _ _ w f7 hhd hr y3 y4 ho7).1 w2 hr2
                            cases hsk2 : skT B N 125 w2.2.1 with
                            | error e => rw [hsk2] at y8; cases y8
                            | ok f9 => rw [hsk2] at y8; cases y8; exact ⟨c1, c2⟩
          · refine R_br h hv hm hp hf hK hn' hb hkd q (fun L f3 w => ?_) (fun L f3 w f7 y1 y2 y3 y4 y5 => ?_)
            · obtain ⟨k1, k2, k3, k4, k5, -⟩ := hd_ok hf h256 w
              obtain ⟨b1, b2, b3⟩ := hrs1 L f3 w
              refine ⟨k1, k2, k3, b3, fun v hv1 => ?_⟩
              obtain ⟨c1, c2, c3, c4, c5, c6, c7⟩ := b1 v hv1
              exact ⟨c1, c2, c5, c6, c3, c4⟩
            · obtain ⟨b1, b2, b3⟩ := hrs2 L f3 w f7 y1 y2 y3 y4 y5
              refine ⟨b3, fun v hv1 => ?_⟩
              obtain ⟨c1, c2, c3, c4, c5, c6, c7⟩ := b1 v hv1
              exact ⟨c1, c2, c5, c6, c3, c4⟩
        · have hok : okMm B N par f n (caR B N par f n) := by
            unfold caR
            cases hg : goT B N (tX B N f) with
            | error e => intro q hq; cases hq
            | ok f1 =>
              obtain ⟨y3, -⟩ := goT_ok hg
              subst y3
              dsimp only
              refine ok_one hn' hf (by decide) (fun w => absurd w (by decide)) (fun f2 hf2 => ?_)
              obtain ⟨x1, y1, y2⟩ := bnd_ok hf2
              obtain ⟨t1, t2, t3⟩ := skT_ok y1
              subst t2
              have l1 := tX_gt (B := B) hX (by omega)
              have l2 := tX_le (B := B) hX
              obtain ⟨v1, v2, v3⟩ := skT_ok y2
              subst v2
              have l3 := tX_gt (B := B) l2 (by omega)
              have l4 := tX_le (B := B) l2
              exact ⟨by omega, l4, v3, fun _ => ⟨t1, hX⟩, fun w => absurd w (by decide), fun _ => rfl⟩
          exact ⟨_, hok, c_stmC (VN := VN) h hn' hb (hkd.trans q), R_one h hK hb (fun q hq => ⟨(hok q hq).2.2.1, (hok q hq).2.2.2.1⟩) (fun b bl k j wa os dd fr to tk nm0 Q M hs hpre => r_stmC h hv hm hp hf hs hpre wa os dd hK hn' hb (hkd.trans q))⟩
        · have hok : okMm B N par f n (vaR B N VN g l par f n kd) := by
            unfold vaR
            cases hg : goT B N (tX B N f) with
            | error e => intro q hq; cases hq
            | ok f1 =>
              obtain ⟨y3, -⟩ := goT_ok hg
              subst y3
              dsimp only
              cases hx : exP B N VN g l (tX B N f) with
              | error e => intro q hq; cases hq
              | ok q2 =>
                obtain ⟨x1, x2, x3, x4⟩ := exP_ok hX hx
                refine ok_one hn' hf hk7 (fun w => by omega) (fun f2 hf2 => ?_)
                obtain ⟨t1, t2, t3⟩ := skT_ok hf2
                subst t2
                have l3 := tX_gt (B := B) x2 (by omega)
                have l4 := tX_le (B := B) x2
                exact ⟨by omega, l4, t3, fun w => by omega, fun _ => x4, fun w => by omega⟩
          exact ⟨_, hok, c_stmV h hv hc hn' hb hkd q, R_one h hK hb (fun q hq => ⟨(hok q hq).2.2.1, (hok q hq).2.2.2.1⟩) (fun b bl k j wa os dd fr to tk nm0 Q M hs hpre => r_stmV h hv hm hp hf hs hpre wa os dd hK hn' hb hkd q)⟩
        · have hok : okMm B N par f n (plR B N par f n kd) := by
            unfold plR
            refine ok_one hn' hf hk7 (fun w => by omega) (fun f2 hf2 => ?_)
            obtain ⟨x1, y1, y2⟩ := bnd_ok hf2
            obtain ⟨y3, -⟩ := goT_ok y1
            subst y3
            obtain ⟨v1, v2, v3⟩ := skT_ok y2
            subst v2
            have l3 := tX_gt (B := B) hX (by omega)
            have l4 := tX_le (B := B) hX
            exact ⟨by omega, l4, v3, fun w => by omega, fun w => by omega, fun _ => rfl⟩
          exact ⟨_, hok, c_stmP (VN := VN) h hn' hb hkd q, R_one h hK hb (fun q hq => ⟨(hok q hq).2.2.1, (hok q hq).2.2.2.1⟩) (fun b bl k j wa os dd fr to tk nm0 Q M hs hpre => r_stmP h hv hm hp hf hs hpre wa os dd hK hn' hb hkd q)⟩
    refine ⟨A, ?_⟩
    by_cases hb : bgS (tK B N f)
    · obtain ⟨r1, a1, a2, a3⟩ := A hb
      have hE : ∃ r2 : Rt, ∀ q1, r1 = .ok q1 → okS B N par q1.2.1 q1.1 r2 ∧ CL B N c c14 g l p kc d par q1.2.1 q1.1 r2 ∧ RX B N m g cg cn cl p false d par q1.2.1 q1.1 r2 := by
        cases hr : r1 with
        | error e => exact ⟨.error (9, 9), fun q hq => by cases hq⟩
        | ok q1 =>
          obtain ⟨k1, k2, k3, k4, k5, k6, k7⟩ := a1 q1 hr
          obtain ⟨r2, b1, b2, b3⟩ := (ih kc d par q1.2.1 q1.1 (by omega) k4 k5 hd hd2 hkc k2).2
          exact ⟨r2, fun q hq => by cases hq; exact ⟨b1, b2, b3⟩⟩
      obtain ⟨r2, hr2⟩ := hE
      have hq2 : ∀ q1, r1 = .ok q1 → ∀ q2, r2 = .ok q2 → q1.1 ≤ q2.1 ∧ q2.1 ≤ 40 := fun q1 hq1 q2 hq2 => ⟨((hr2 q1 hq1).1 q2 hq2).1, ((hr2 q1 hq1).1 q2 hq2).2.1⟩
      refine ⟨joinR n r1 r2, ok_join a1 (fun q1 hq1 => (hr2 q1 hq1).1), c_lp_cons hb a2 (fun q1 hq1 => ?_), R_cons a3 (fun q1 hq1 => ?_)⟩
      · obtain ⟨k1, k2, k3, k4, k5, k6, k7⟩ := a1 q1 hq1
        exact ⟨k1, k2, k6, (hr2 q1 hq1).2.1, hq2 q1 hq1⟩
      · obtain ⟨k1, k2, k3, k4, k5, k6, k7⟩ := a1 q1 hq1
        exact ⟨k1, k2, k6, (hr2 q1 hq1).2.2, hq2 q1 hq1⟩
    · refine ⟨.ok (n, f, fun _ _ => 0, fun _ => []), fun q hq => ?_, c_lp_nil hb _ _, R_nil _ _⟩
      cases hq
      exact ⟨Nat.le_refl _, hn, Nat.le_refl _, hf, hK, hb, fun s s1 s2 => absurd s2 (Nat.not_lt.mpr s1)⟩
