/-! ===== pure rows 92: statements: the reference's other statements ===== -/
theorem bdK_r (k : Nat) : 1 ≤ bdK k ∧ bdK k ≤ 9 := by
  unfold bdK
  by_cases h : k = 257
  · rw [if_pos h]; decide
  · rw [if_neg h]; decide
theorem px_e {K X V : Nat → Nat} : ∀ n md d L f e, md ≤ 4 → px K X V n md d L f = .error e → 1 ≤ e.1 ∧ e.1 ≤ 9 := by
  intro n
  induction n with
  | zero => intro md d L f e _ h; cases h; decide
  | succ n ih =>
    intro md d L f e hm h
    have hc : md = 0 ∨ md = 1 ∨ md = 2 ∨ md = 3 ∨ md = 4 := by omega
    rcases hc with c | c | c | c | c
    · subst c
      rw [px_0] at h
      split at h
      · cases h
      · split at h
        · cases h
        · split at h
          · cases h
          · split at h
            · split at h
              · cases h; exact (by decide : 1 ≤ 3 ∧ 3 ≤ 9)
              · cases h
            · split at h
              · split at h
                · cases h; exact (by decide : 1 ≤ 3 ∧ 3 ≤ 9)
                · cases hp : px K X V n 0 (d + 1) [] (X f) with
                  | error e2 => rw [hp] at h; cases h; exact ih _ _ _ _ _ (by decide) hp
                  | ok r => rw [hp] at h; cases h
              · split at h
                · split at h
                  · cases h; exact (by decide : 1 ≤ 3 ∧ 3 ≤ 9)
                  · cases hp : px K X V n 3 (d + 1) [] (X f) with
                    | error e2 => rw [hp] at h; cases h; exact ih _ _ _ _ _ (by decide) hp
                    | ok r =>
                      rw [hp] at h
                      have h' : (if K r.2 = 41 then (.ok (r.1, X r.2) : PX) else .error (bdK (K r.2), r.2)) = .error e := h
                      split at h'
                      · cases h'
                      · cases h'; exact bdK_r _
                · cases h; exact bdK_r _
    · subst c
      rw [px_1] at h
      cases hp : px K X V n 0 d [] f with
      | error e2 => rw [hp] at h; cases h; exact ih _ _ _ _ _ (by decide) hp
      | ok r => rw [hp] at h; exact ih _ _ _ _ _ (by decide) h
    · subst c
      rw [px_2] at h
      split at h
      · cases hp : px K X V n 0 d [] (X f) with
        | error e2 => rw [hp] at h; cases h; exact ih _ _ _ _ _ (by decide) hp
        | ok r => rw [hp] at h; exact ih _ _ _ _ _ (by decide) h
      · cases h
    · subst c
      rw [px_3] at h
      cases hp : px K X V n 1 d [] f with
      | error e2 => rw [hp] at h; cases h; exact ih _ _ _ _ _ (by decide) hp
      | ok r => rw [hp] at h; exact ih _ _ _ _ _ (by decide) h
    · subst c
      rw [px_4] at h
      split at h
      · cases hp : px K X V n 1 d [] (X f) with
        | error e2 => rw [hp] at h; cases h; exact ih _ _ _ _ _ (by decide) hp
        | ok r => rw [hp] at h; exact ih _ _ _ _ _ (by decide) h
      · cases h
theorem exP_e {B : Nat → Nat} {N : Nat} {VN : Nat → List Nat} {g l f : Nat} {e : Nat × Nat} (h : exP B N VN g l f = .error e) : 1 ≤ e.1 ∧ e.1 ≤ 9 := by
  unfold exP at h
  cases hp : px (tK B N) (tX B N) (tV B N VN g l) (needX N 3 f) 3 0 [] f with
  | error e2 => rw [hp] at h; cases h; exact px_e _ _ _ _ _ _ (by decide) hp
  | ok q =>
    rw [hp] at h
    dsimp only at h
    split at h
    · cases h; exact (by decide : 1 ≤ 1 ∧ 1 ≤ 9)
    · cases h
theorem exP_257 {B : Nat → Nat} {N : Nat} {VN : Nat → List Nat} {g l f : Nat} (h : tK B N f = 257) : exP B N VN g l f = .error (1, f) := by
  have e0 : ∀ z, px (tK B N) (tX B N) (tV B N VN g l) (z + 1) 0 0 [] f = .error (1, f) := by
    intro z
    rw [px_0, if_neg (by omega), if_neg (by omega), if_neg (by omega), if_neg (by omega), if_neg (by omega), if_neg (by omega)]
    unfold bdK
    rw [if_pos h]
  have e1 : ∀ z, px (tK B N) (tX B N) (tV B N VN g l) (z + 2) 1 0 [] f = .error (1, f) := by
    intro z
    rw [show z + 2 = (z + 1) + 1 from rfl, px_1, e0]
  have e3 : ∀ z, px (tK B N) (tX B N) (tV B N VN g l) (z + 3) 3 0 [] f = .error (1, f) := by
    intro z
    rw [show z + 3 = (z + 2) + 1 from rfl, px_3, e1]
  unfold exP
  rw [show needX N 3 f = 4 * (N - f) + 3 from rfl, e3]
theorem vIx_rng (VN : Nat → List Nat) (g l : Nat) (W : List Nat) : vIx VN g l W ≤ 5 := by
  unfold vIx
  (repeat' split) <;> omega
theorem exP_ok {B : Nat → Nat} {N : Nat} {VN : Nat → List Nat} {g l f : Nat} (hf : f ≤ N) {q : List Nat × Nat} (h : exP B N VN g l f = .ok q) : ¬ tK B N q.2 = 257 ∧ q.2 ≤ N ∧ f < q.2 ∧ cv q.1 := by
  have hz := px_end (V := tV B N VN g l) (t_adv B N) (needX N 3 f) 3 0 [] f hf (by decide) (Nat.le_refl _)
  unfold exP at h
  cases hp : px (tK B N) (tX B N) (tV B N VN g l) (needX N 3 f) 3 0 [] f with
  | error e2 => rw [hp] at h; cases h
  | ok q2 =>
    rw [hp] at h hz
    dsimp only at h
    split at h
    · cases h
    · rename_i hk
      cases h
      have hV : ∀ x, ¬ tV B N VN g l x = 99 → (16 ≤ tV B N VN g l x ∧ tV B N VN g l x < 19) ∨ (24 ≤ tV B N VN g l x ∧ tV B N VN g l x < 26) := by
        intro x hx
        unfold tV at hx ⊢
        have := vIx_rng VN g l (wj B x (tL B N x))
        split at hx
        · exact absurd rfl hx
        · rename_i h5
          rw [if_neg h5]
          split at hx
          · rename_i h3; rw [if_pos h3]; omega
          · rename_i h3; rw [if_neg h3]; omega
      exact ⟨hk, hz.1, hz.2.2 (by decide), px_cv hV _ _ _ _ _ _ (fun z => by omega) (by decide) hp⟩
/-- an expression of the reference -/
theorem r_ex {B : Nat → Nat} {N : Nat} {c m : Nat → Int32} (h : txt B N c m) {VN : Nat → List Nat} {g l p : Nat} {cg cn : Nat → Int64} {cl : Nat → Int32} (hv : vNm VN g l) (hm : vM VN g l p cg cl cn) (hp : p < 6) {f1 s : Nat} {fr to tk : Int32} {nm0 : Int64} (hf1 : f1 ≤ N) (hs : rsO B N f1 fr to tk nm0) (hs40 : s < 40) {Q : List Nat} (wa os dd : Int32) (c1 c3 c7 c8 : Nat → Int32) (hco : codeIs c7 Q) (hQ : Q.length ≤ f1) :
    ∃ (z fr2 to2 tk2 : Int32) (nm2 : Int64) (wr2 wa2 cd2 os2 dd2 : Int32) (d1 d3 d7 d8 : Nat → Int32), fX11_takeExp (nI p) (nI s) (nI N) fr to tk nm0 0 wa (nI g) (nI Q.length) os dd c1 m c3 cg cl cn c7 c8 = some (z, fr2, to2, tk2, nm2, wr2, wa2, cd2, os2, dd2, d1, d3, d7, d8) ∧ match exP B N VN g l f1 with
      | .error e => z = 0 ∧ wr2 = nI e.1 ∧ wa2 = nI e.2 ∧ ¬ wr2 = 0
      | .ok q => z = 1 ∧ rsO B N q.2 fr2 to2 tk2 nm2 ∧ wr2 = 0 ∧ wa2 = wa ∧ cd2 = nI (Q ++ q.1).length ∧ d1 = upd c1 s (nI Q.length) ∧ codeIs d7 (Q ++ q.1) ∧ d8 = upd c8 s (nI (Q ++ q.1).length) ∧ (Q ++ q.1).length ≤ q.2 := by
  obtain ⟨h1, h2, h3, h4⟩ := hs
  subst h1 h2 h3
  obtain ⟨⟨z, fr2, to2, tk2, nm2, wr2, wa2, cd2, os2, dd2, d1, d3, d7, d8⟩, e, ho⟩ := r_takeExp h hv hm hp hs40 Q wa os dd c1 c3 c7 c8 hf1 nm0 h4 hco hQ
  refine ⟨z, fr2, to2, tk2, nm2, wr2, wa2, cd2, os2, dd2, d1, d3, d7, d8, e, ?_⟩
  cases hx : exP B N VN g l f1 with
  | error e1 =>
    rw [hx] at ho
    obtain ⟨o1, o2, o3⟩ := ho
    have o2 : wr2 = nI e1.1 := o2
    have := exP_e hx
    refine ⟨o1, o2, o3, ?_⟩
    rw [o2]
    exact fun w => absurd ((nI_eq (a := e1.1) (b := 0) (by omega) (by decide)).mp w) (by omega)
  | ok q =>
    rw [hx] at ho
    obtain ⟨o1, o2, o3, o4, o5, o6, o7, o8, o9, o10, o11, o12, o13⟩ := ho
    exact ⟨o1, ⟨o2, o3, o4, o5⟩, o6, o7, o8, o9, o10, o11, by rw [List.length_append]; exact o13⟩
theorem seg_one {Q L : List Nat} : ∃ A T, Q ++ L = A ++ L ++ T ∧ nI Q.length = nI A.length ∧ nI (Q ++ L).length = nI (A ++ L).length := ⟨Q, [], by rw [List.append_nil], rfl, rfl⟩
theorem r_stmV {B : Nat → Nat} {N : Nat} {c m : Nat → Int32} (h : txt B N c m) {VN : Nat → List Nat} {g l p d b bl par f n k j : Nat} {cg cn : Nat → Int64} {cl : Nat → Int32} {Q : List Nat} {M : MT} {fr to tk : Int32} {nm0 : Int64} (hv : vNm VN g l) (hm : vM VN g l p cg cl cn) (hp : p < 6) (hf : f ≤ N) (hs : rsO B N f fr to tk nm0) (hpre : rPre p d b bl par f n k j Q M) (wa os dd : Int32) (hK : ¬ tK B N f = 257) (hn : n < 40) (hb : bgS (tK B N f)) {kd : Nat} (hkd : kdT (tK B N f) = kd) (h45 : kd = 4 ∨ kd = 5) : ∃ (z fr2 to2 tk2 : Int32) (nm2 : Int64) (wr2 wa2 st2 cd2 bl2 op2 os2 dd2 : Int32) (U : MT), rTs (nI p) (nI N) fr to tk nm0 0 wa (nI g) (nI n) (nI Q.length) (nI bl) (nI d) os dd cg cl cn m M = some (z, fr2, to2, tk2, nm2, wr2, wa2, st2, cd2, bl2, op2, os2, dd2, U) ∧ rTo B N p d b bl n k j Q M wa (vaR B N VN g l par f n kd) z fr2 to2 tk2 nm2 wr2 wa2 st2 cd2 bl2 op2 U := by
  have hk : ¬ tK B N f = 258 := fun z => by unfold kdT at hkd; rw [if_pos z] at hkd; omega
  rw [r_tsU h hv hm hp hf hs hpre wa os dd hK hn hb (fun z => absurd z hk), if_neg hk, hkd]
  have hx : ∀ x : Nat, x < 4 → ¬ nI kd = nI x := fun x hx z => absurd ((nI_eq (a := kd) (b := x) (by omega) (by omega)).mp z) (by omega)
  have hpre0 := hpre
  obtain ⟨p1, p2, p3, p4, p5, p6, p7, p8, p9⟩ := hpre
  obtain ⟨sb, inn, fs, eb, hsb, hinn, hfs⟩ := r_begin (kd := kd) (f := f) hp hn p5 p6 (by omega) p7 p8
  obtain ⟨fr1, to1, tk1, nm1, e1, hs1⟩ := r_nxt h hf hs
  rw [hs.1, hs.2.2.1] at e1
  have hlt : f < tX B N f := tX_gt hf (fun z => by unfold bgS at hb; omega)
  have hX := tX_le (B := B) hf
  obtain ⟨y, fr2, to2, tk2, nm2, wr2, wa2, cd2, os2, dd2, d1, d3, d7, d8, e2, ho2⟩ := r_ex h hv hm hp hX hs1 hn wa os dd (upd M.2.2.2.2.2.2.2.1 n 0) M.2.2.2.2.2.2.2.2.2.2.2.2.2.2.1 M.2.2.2.2.2.2.2.2.2.2.2.2.2.2.2.1 (upd M.2.2.2.2.2.2.2.2.1 n 0) p1 (by omega)
  unfold fX11_takeStatement_p87 fX11_takeStatement_p266 fX11_takeStatement_p279 fX11_takeStatement_p280
  rw [eb, ob_s, e1, ob_s, if_neg (show ¬ nI kd = 0 from hx 0 (by decide)), if_neg (show ¬ nI kd = 1 from hx 1 (by decide)), if_neg (show ¬ nI kd = 2 from hx 2 (by decide)), if_neg (show ¬ nI kd = 3 from hx 3 (by decide)), if_neg (show ¬ 5 < nI kd from Int32.not_lt.mpr (show nI kd ≤ (5 : Int32) from nI_le (a := kd) (b := 5) (by omega) (by decide)))]
  dsimp only
  rw [e2, ob_s]
  dsimp only
  unfold vaR
  by_cases h1 : tK B N (tX B N f) = 257
  · have hgo : goT B N (tX B N f) = .error (1, tX B N f) := by unfold goT; rw [if_pos h1]
    rw [exP_257 h1] at ho2
    rw [hgo, if_pos ho2.1, bd_eq _ (by decide)]
    exact ⟨_, _, _, _, _, _, _, _, _, _, _, _, _, _, rfl, Or.inl ⟨rfl, ho2.2.1, ho2.2.2.1, ho2.2.2.2⟩⟩
  · have hgo : goT B N (tX B N f) = .ok (tX B N f) := by unfold goT; rw [if_neg h1]
    rw [hgo]
    dsimp only
    cases hex : exP B N VN g l (tX B N f) with
    | error e =>
      rw [hex] at ho2
      rw [if_pos ho2.1, bd_eq _ (by decide)]
      exact ⟨_, _, _, _, _, _, _, _, _, _, _, _, _, _, rfl, Or.inl ⟨rfl, ho2.2.1, ho2.2.2.1, ho2.2.2.2⟩⟩
    | ok q =>
      rw [hex] at ho2
      obtain ⟨o1, o2, o3, o4, o5, o6, o7, o8, o9⟩ := ho2
      obtain ⟨q1, q2, q3, q4⟩ := exP_ok hX hex
      obtain ⟨z, fr3, to3, tk3, nm3, wr3, wa3, e3, hz, ho⟩ := r_semi h q2 o2 p5 p6 (w := 59) (by decide) wa
      have e3 : fX11_take 59 (nI N) fr2 to2 tk2 nm2 0 wa m = some (z, fr3, to3, tk3, nm3, wr3, wa3) := e3
      have hgq : goT B N q.2 = .ok q.2 := by unfold goT; rw [if_neg q1]
      rw [hgq] at ho
      subst o3 o4 o6 o8
      rw [o1, if_neg n10, e3, ob_s]
      dsimp only
      refine ⟨z, fr3, to3, tk3, nm3, wr3, wa3, nI (n + 1), cd2, nI bl, nI d, os2, dd2, (M.1, upd M.2.1 n (nI kd), upd M.2.2.1 n (nI f), upd M.2.2.2.1 n (nI p), sb, upd M.2.2.2.2.2.1 n (nI b), inn, upd (upd M.2.2.2.2.2.2.2.1 n 0) n (nI Q.length), upd (upd M.2.2.2.2.2.2.2.2.1 n 0) n (nI (Q ++ q.1).length), upd M.2.2.2.2.2.2.2.2.2.1 b (nI n), M.2.2.2.2.2.2.2.2.2.2.1, fs, M.2.2.2.2.2.2.2.2.2.2.2.2.1, M.2.2.2.2.2.2.2.2.2.2.2.2.2.1, d3, d7, M.2.2.2.2.2.2.2.2.2.2.2.2.2.2.2.2.1, M.2.2.2.2.2.2.2.2.2.2.2.2.2.2.2.2.2), ?_, ?_⟩
      · rcases hz with hz | hz
        · rw [hz, if_pos rfl, bd_eq _ (by decide)]
        · rw [hz, if_neg n10, bd_eq _ (by decide)]
      · have ho : (match skT B N 59 q.2 with
          | .error e => rBd e z fr3 tk3 wr3 wa3 (nI d)
          | .ok f2 => z = 1 ∧ rsO B N f2 fr3 to3 tk3 nm3 ∧ wr3 = 0 ∧ wa3 = wa2 ∧ q.2 ≤ f2) := ho
        cases hr : skT B N 59 q.2 with
        | error e => rw [hr] at ho; exact ho
        | ok f2 =>
          rw [hr] at ho
          obtain ⟨a1, a2, a3, a4, a5⟩ := ho
          exact ⟨a1, a2, a3, a4, rfl, Q ++ q.1, bl, rfl, o5, rfl, one_post hpre0 hn hsb hinn hfs (fun s hs => (upd_ne (Nat.ne_of_lt hs)).trans (upd_ne (Nat.ne_of_lt hs))) (fun s hs => (upd_ne (Nat.ne_of_lt hs)).trans (upd_ne (Nat.ne_of_lt hs))) (fun _ _ => rfl) (fun _ _ => rfl) (fun _ _ => rfl) o7 ⟨q.1, rfl⟩ (by show (Q ++ q.1).length ≤ f2; omega) (fun _ => by rw [upd_at, upd_at]; exact seg_one) (fun z => absurd z (by omega)) (fun z => absurd z (by omega))⟩
theorem r_stmC {B : Nat → Nat} {N : Nat} {c m : Nat → Int32} (h : txt B N c m) {VN : Nat → List Nat} {g l p d b bl par f n k j : Nat} {cg cn : Nat → Int64} {cl : Nat → Int32} {Q : List Nat} {M : MT} {fr to tk : Int32} {nm0 : Int64} (hv : vNm VN g l) (hm : vM VN g l p cg cl cn) (hp : p < 6) (hf : f ≤ N) (hs : rsO B N f fr to tk nm0) (hpre : rPre p d b bl par f n k j Q M) (wa os dd : Int32) (hK : ¬ tK B N f = 257) (hn : n < 40) (hb : bgS (tK B N f)) (hkd : kdT (tK B N f) = 3) : ∃ (z fr2 to2 tk2 : Int32) (nm2 : Int64) (wr2 wa2 st2 cd2 bl2 op2 os2 dd2 : Int32) (U : MT), rTs (nI p) (nI N) fr to tk nm0 0 wa (nI g) (nI n) (nI Q.length) (nI bl) (nI d) os dd cg cl cn m M = some (z, fr2, to2, tk2, nm2, wr2, wa2, st2, cd2, bl2, op2, os2, dd2, U) ∧ rTo B N p d b bl n k j Q M wa (caR B N par f n) z fr2 to2 tk2 nm2 wr2 wa2 st2 cd2 bl2 op2 U := by
  have hk : ¬ tK B N f = 258 := fun z => by unfold kdT at hkd; rw [if_pos z] at hkd; omega
  rw [r_tsU h hv hm hp hf hs hpre wa os dd hK hn hb (fun z => absurd z hk), if_neg hk, hkd]
  have hpre0 := hpre
  obtain ⟨p1, p2, p3, p4, p5, p6, p7, p8, p9⟩ := hpre
  obtain ⟨sb, inn, fs, eb, hsb, hinn, hfs⟩ := r_begin (kd := 3) (f := f) hp hn p5 p6 (by omega) p7 p8
  obtain ⟨fr1, to1, tk1, nm1, e1, hs1⟩ := r_nxt h hf hs
  rw [hs.1, hs.2.2.1] at e1
  have hlt : f < tX B N f := tX_gt hf (fun z => by unfold bgS at hb; omega)
  have hX := tX_le (B := B) hf
  have hb40 := inb_nI (j := n) (n := 40) hn (by decide)
  obtain ⟨i1, i2, i3, i4⟩ := hs1
  have hle1 := kM_lt (tK B N (tX B N f))
  unfold fX11_takeStatement_p87 fX11_takeStatement_p232
  rw [eb, ob_s, e1, ob_s, if_neg (by decide), if_neg (by decide), if_neg (by decide), if_pos (by decide), bd_eq _ hb40, nm_q, bd_eq _ hb40, nm_q, nI_clamp (n := n) (by omega)]
  dsimp only
  unfold caR
  by_cases h7 : tK B N (tX B N f) = 257
  · have hgo : goT B N (tX B N f) = .error (1, tX B N f) := by unfold goT; rw [if_pos h7]
    have n1 : ¬ tk1 = 1 := by rw [i3, h7]; decide
    rw [if_neg n1, i1, i3, r_may, ob_s, if_pos h7, if_pos rfl, hgo]
    exact ⟨_, _, _, _, _, _, _, _, _, _, _, _, _, _, rfl, Or.inl ⟨rfl, (by decide : (1 : Int32) = nI 1), rfl, n10⟩⟩
  · have hgo : goT B N (tX B N f) = .ok (tX B N f) := by unfold goT; rw [if_neg h7]
    rw [hgo]
    dsimp only
    by_cases h8 : tK B N (tX B N f) = 258
    · have y1 : tk1 = 1 := i3.trans (congrArg nI ((kM_1 _).mpr h8))
      rw [if_pos y1, i1, i3, r_may, ob_s, if_neg h7, if_neg n10, if_neg n10]
      obtain ⟨fr2, to2, tk2, nm2, e2, hs2⟩ := r_nxt h hX (show rsO B N (tX B N f) fr1 to1 tk1 nm1 from ⟨i1, i2, i3, i4⟩)
      rw [i1, i3] at e2
      obtain ⟨z, fr3, to3, tk3, nm3, wr3, wa3, e3, hz, ho⟩ := r_semi h (tX_le hX) hs2 p5 p6 (w := 59) (by decide) wa
      have e3 : fX11_take 59 (nI N) fr2 to2 tk2 nm2 0 wa m = some (z, fr3, to3, tk3, nm3, wr3, wa3) := e3
      have hlt2 : tX B N f < tX B N (tX B N f) := tX_gt hX (by omega)
      rw [e2, ob_s]
      dsimp only
      rw [e3, ob_s]
      dsimp only
      have hzb : bz z = true := by rcases hz with hz | hz <;> rw [hz] <;> decide
      rw [bd_eq _ hzb]
      refine ⟨z, fr3, to3, tk3, nm3, wr3, wa3, nI (n + 1), nI Q.length, nI bl, nI d, os, dd, (M.1, upd M.2.1 n (nI 3), upd M.2.2.1 n (nI f), upd M.2.2.2.1 n (nI p), sb, upd M.2.2.2.2.2.1 n (nI b), inn, upd M.2.2.2.2.2.2.2.1 n 0, upd M.2.2.2.2.2.2.2.2.1 n 0, upd M.2.2.2.2.2.2.2.2.2.1 b (nI n), M.2.2.2.2.2.2.2.2.2.2.1, fs, M.2.2.2.2.2.2.2.2.2.2.2.2.1, M.2.2.2.2.2.2.2.2.2.2.2.2.2.1, M.2.2.2.2.2.2.2.2.2.2.2.2.2.2.1, M.2.2.2.2.2.2.2.2.2.2.2.2.2.2.2.1, vp_updL M.2.2.2.2.2.2.2.2.2.2.2.2.2.2.2.2.1 n nm1, upd M.2.2.2.2.2.2.2.2.2.2.2.2.2.2.2.2.2 n (nI (tX B N f))), rfl, ?_⟩
      have es : skT B N 258 (tX B N f) = goT B N (tX B N (tX B N f)) := by unfold skT; rw [if_pos h8]
      rw [es]
      cases hr : bnd (goT B N (tX B N (tX B N f))) (skT B N 59) with
      | error e => rw [hr] at ho; exact ho
      | ok f2 =>
        rw [hr] at ho
        obtain ⟨a1, a2, a3, a4, a5⟩ := ho
        exact ⟨a1, a2, a3, a4, rfl, Q, bl, rfl, rfl, rfl, one_post hpre0 hn hsb hinn hfs (fun s hs => upd_ne (Nat.ne_of_lt hs)) (fun s hs => upd_ne (Nat.ne_of_lt hs)) (fun _ _ => rfl) (fun s hs => updL_ne (Nat.ne_of_lt hs)) (fun s hs => upd_ne (Nat.ne_of_lt hs)) p1 ⟨[], (List.append_nil _).symm⟩ (by show Q.length ≤ f2; omega) (fun z => absurd z (by omega)) (fun z => absurd z (by omega)) (fun _ => ⟨(updL_at _ _ _).trans (i4 (by omega)).2.2, upd_at _ _ _⟩)⟩
    · have n1 : ¬ tk1 = 1 := fun z => h8 ((kM_1 _).mp ((nI_eq (a := kM (tK B N (tX B N f))) (b := 1) (by omega) (by decide)).mp (i3.symm.trans z)))
      rw [if_neg n1, i1, i3, r_may, ob_s, if_neg h7, if_pos rfl, if_pos rfl]
      have es : skT B N 258 (tX B N f) = .error (2, tX B N f) := by unfold skT; rw [if_neg h8]
      rw [es]
      exact ⟨_, _, _, _, _, _, _, _, _, _, _, _, _, _, rfl, Or.inl ⟨rfl, (by decide : (2 : Int32) = nI 2), rfl, (by decide : ¬ (2 : Int32) = 0)⟩⟩
theorem r_stmA {B : Nat → Nat} {N : Nat} {c m : Nat → Int32} (h : txt B N c m) {VN : Nat → List Nat} {g l p d b bl par f n k j : Nat} {cg cn : Nat → Int64} {cl : Nat → Int32} {Q : List Nat} {M : MT} {fr to tk : Int32} {nm0 : Int64} (hv : vNm VN g l) (hm : vM VN g l p cg cl cn) (hp : p < 6) (hf : f ≤ N) (hs : rsO B N f fr to tk nm0) (hpre : rPre p d b bl par f n k j Q M) (wa os dd : Int32) (hn : n < 40) (hk : tK B N f = 258) (h5 : ¬ vIx VN g l (wj B f (tL B N f)) = 5) : ∃ (z fr2 to2 tk2 : Int32) (nm2 : Int64) (wr2 wa2 st2 cd2 bl2 op2 os2 dd2 : Int32) (U : MT), rTs (nI p) (nI N) fr to tk nm0 0 wa (nI g) (nI n) (nI Q.length) (nI bl) (nI d) os dd cg cl cn m M = some (z, fr2, to2, tk2, nm2, wr2, wa2, st2, cd2, bl2, op2, os2, dd2, U) ∧ rTo B N p d b bl n k j Q M wa (asR B N VN g l par f n) z fr2 to2 tk2 nm2 wr2 wa2 st2 cd2 bl2 op2 U := by
  have hkd : kdT (tK B N f) = 0 := by unfold kdT; rw [if_pos hk]
  rw [r_tsU h hv hm hp hf hs hpre wa os dd (by omega) hn (Or.inl hk) (fun _ => h5), if_pos hk, hkd]
  have hpre0 := hpre
  obtain ⟨p1, p2, p3, p4, p5, p6, p7, p8, p9⟩ := hpre
  obtain ⟨sb, inn, fs, eb, hsb, hinn, hfs⟩ := r_begin (kd := 0) (f := f) hp hn p5 p6 (by omega) p7 p8
  obtain ⟨fr1, to1, tk1, nm1, e1, hs1⟩ := r_nxt h hf hs
  rw [hs.1, hs.2.2.1] at e1
  have hlt : f < tX B N f := tX_gt hf (by omega)
  have hX := tX_le (B := B) hf
  have hb40 := inb_nI (j := n) (n := 40) hn (by decide)
  obtain ⟨y, fr2, to2, tk2, nm2, wr2, wa2, e2, ho2⟩ := r_take h hX hs1 (w := 61) (by decide) wa
  have e2 : fX11_take 61 (nI N) fr1 to1 tk1 nm1 0 wa m = some (y, fr2, to2, tk2, nm2, wr2, wa2) := e2
  unfold fX11_takeStatement_p87 fX11_takeStatement_p144 fX11_takeStatement_p145
  rw [eb, ob_s, e1, ob_s, if_pos (by decide), bd_eq _ hb40, nm_q, nI_clamp (n := n) (by omega)]
  dsimp only
  rw [e2, ob_s]
  dsimp only
  unfold asR
  rw [if_neg h5]
  rcases ho2 with ⟨o1, o2, o3, o4, o5⟩ | ⟨o1, o2, o3, o4⟩
  · subst o4 o5
    have h7 : ¬ tK B N (tX B N f) = 257 := by omega
    have hX2 := tX_le (B := B) hX
    have hlt2 : tX B N f < tX B N (tX B N f) := tX_gt hX (by omega)
    have hbd : bnd (goT B N (tX B N f)) (skT B N 61) = goT B N (tX B N (tX B N f)) := by
      unfold goT skT
      rw [if_neg h7]
      dsimp only [bnd]
      rw [if_pos o1]
      rfl
    obtain ⟨w, fr3, to3, tk3, nm3, wr3, wa3, cd3, os3, dd3, d1, d3, d7, d8, e3, ho3⟩ := r_ex h hv hm hp hX2 o3 hn wa2 os dd (upd M.2.2.2.2.2.2.2.1 n 0) M.2.2.2.2.2.2.2.2.2.2.2.2.2.2.1 M.2.2.2.2.2.2.2.2.2.2.2.2.2.2.2.1 (upd M.2.2.2.2.2.2.2.2.1 n 0) p1 (by omega)
    rw [o2, if_neg n10, e3, ob_s, hbd]
    dsimp only
    by_cases h1 : tK B N (tX B N (tX B N f)) = 257
    · have hgo : goT B N (tX B N (tX B N f)) = .error (1, tX B N (tX B N f)) := by unfold goT; rw [if_pos h1]
      rw [exP_257 h1] at ho3
      rw [hgo, if_pos ho3.1, bd_eq _ (by decide)]
      exact ⟨_, _, _, _, _, _, _, _, _, _, _, _, _, _, rfl, Or.inl ⟨rfl, ho3.2.1, ho3.2.2.1, ho3.2.2.2⟩⟩
    · have hgo : goT B N (tX B N (tX B N f)) = .ok (tX B N (tX B N f)) := by unfold goT; rw [if_neg h1]
      rw [hgo]
      dsimp only
      cases hex : exP B N VN g l (tX B N (tX B N f)) with
      | error e =>
        rw [hex] at ho3
        rw [if_pos ho3.1, bd_eq _ (by decide)]
        exact ⟨_, _, _, _, _, _, _, _, _, _, _, _, _, _, rfl, Or.inl ⟨rfl, ho3.2.1, ho3.2.2.1, ho3.2.2.2⟩⟩
      | ok q =>
        rw [hex] at ho3
        obtain ⟨x1, x2, x3, x4, x5, x6, x7, x8, x9⟩ := ho3
        obtain ⟨q1, q2, q3, q4⟩ := exP_ok hX2 hex
        obtain ⟨z, fr4, to4, tk4, nm4, wr4, wa4, e4, hz, ho⟩ := r_semi h q2 x2 p5 p6 (w := 59) (by decide) wa2
        have e4 : fX11_take 59 (nI N) fr3 to3 tk3 nm3 0 wa2 m = some (z, fr4, to4, tk4, nm4, wr4, wa4) := e4
        have hgq : goT B N q.2 = .ok q.2 := by unfold goT; rw [if_neg q1]
        rw [hgq] at ho
        subst x3 x4 x6 x8
        rw [x1, if_neg n10, e4, ob_s]
        dsimp only
        refine ⟨z, fr4, to4, tk4, nm4, wr4, wa4, nI (n + 1), cd3, nI bl, nI d, os3, dd3, (M.1, upd M.2.1 n (nI 0), upd M.2.2.1 n (nI f), upd M.2.2.2.1 n (nI p), sb, upd M.2.2.2.2.2.1 n (nI b), inn, upd (upd M.2.2.2.2.2.2.2.1 n 0) n (nI Q.length), upd (upd M.2.2.2.2.2.2.2.2.1 n 0) n (nI (Q ++ q.1).length), upd M.2.2.2.2.2.2.2.2.2.1 b (nI n), M.2.2.2.2.2.2.2.2.2.2.1, fs, M.2.2.2.2.2.2.2.2.2.2.2.2.1, upd M.2.2.2.2.2.2.2.2.2.2.2.2.2.1 n (vMi (vIx VN g l (wj B f (tL B N f)))), d3, d7, M.2.2.2.2.2.2.2.2.2.2.2.2.2.2.2.2.1, M.2.2.2.2.2.2.2.2.2.2.2.2.2.2.2.2.2), ?_, ?_⟩
        · rcases hz with hz | hz
          · rw [hz, if_pos rfl, bd_eq _ (by decide)]
          · rw [hz, if_neg n10, bd_eq _ (by decide)]
        · have ho : (match skT B N 59 q.2 with
            | .error e => rBd e z fr4 tk4 wr4 wa4 (nI d)
            | .ok f2 => z = 1 ∧ rsO B N f2 fr4 to4 tk4 nm4 ∧ wr4 = 0 ∧ wa4 = wa3 ∧ q.2 ≤ f2) := ho
          cases hr : skT B N 59 q.2 with
          | error e => rw [hr] at ho; exact ho
          | ok f2 =>
            rw [hr] at ho
            obtain ⟨a1, a2, a3, a4, a5⟩ := ho
            exact ⟨a1, a2, a3, a4, rfl, Q ++ q.1, bl, rfl, x5, rfl, one_post hpre0 hn hsb hinn hfs (fun s hs => (upd_ne (Nat.ne_of_lt hs)).trans (upd_ne (Nat.ne_of_lt hs))) (fun s hs => (upd_ne (Nat.ne_of_lt hs)).trans (upd_ne (Nat.ne_of_lt hs))) (fun s hs => upd_ne (Nat.ne_of_lt hs)) (fun _ _ => rfl) (fun _ _ => rfl) x7 ⟨q.1, rfl⟩ (by show (Q ++ q.1).length ≤ f2; omega) (fun _ => by rw [upd_at, upd_at]; exact seg_one) (fun _ => upd_at _ _ _) (fun z => absurd z (by omega))⟩
  · rw [o2, if_pos rfl, bd_eq _ (by decide)]
    have hbd : bnd (goT B N (tX B N f)) (skT B N 61) = .error (bdK (tK B N (tX B N f)), tX B N f) := by
      unfold goT skT bdK
      by_cases h7 : tK B N (tX B N f) = 257
      · rw [if_pos h7, if_pos h7]; rfl
      · rw [if_neg h7, if_neg h7]
        dsimp only [bnd]
        rw [if_neg o1]
    have hbr := bdK_r (tK B N (tX B N f))
    rw [hbd]
    exact ⟨_, _, _, _, _, _, _, _, _, _, _, _, _, _, rfl, Or.inl ⟨rfl, o3, o4, by rw [o3]; exact fun w => absurd ((nI_eq (a := bdK (tK B N (tX B N f))) (b := 0) (by omega) (by decide)).mp w) (by omega)⟩⟩
