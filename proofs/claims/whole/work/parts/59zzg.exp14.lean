/-! ===== pure rows 80: an expression of the class is the descent ===== -/
theorem name_ok {B : Nat → Nat} {N : Nat} {c m : Nat → Int32} (h : txt B N c m) {f : Nat} (hf : f ≤ N) (hk : 258 ≤ tK B N f) : nameOk (wj B f (tL B N f)) := by
  obtain ⟨fu, hfu, hg⟩ := fu_any
  have hN := h.1
  have q : f < N := by
    by_cases q : f < N
    · exact q
    · have := (tK_out (B := B) q).1; omega
  have w : isLt (B f) = true := by
    by_cases w : isLt (B f) = true
    · exact w
    · have e := (tK_mark q w).1
      have hb := (h.2 f q).1
      by_cases z : isMk (B f) = true
      · rw [if_pos z] at e; omega
      · rw [if_neg z] at e; omega
  have e := (tK_word q w).1
  have l8 : tL B N f ≤ 8 := by
    by_cases z : tL B N f ≤ 8
    · exact z
    · rw [if_neg z] at e; omega
  have o := (c_word h hf 0 0 (N - f) 0 fu 0 (by omega) (by omega) (fun b hb => by cases hb) (fun _ => rfl)).1
  exact ⟨o, by rw [wj_len]; exact l8⟩
theorem tokZ {B : Nat → Nat} {N f : Nat} {t a : Int32} {nm0 : Int64} {fl fa nx : Int32} (hs : scC B N f t a nm0 fl fa nx) {w : Nat} (hw : w < 257) : t = nI w ↔ tK B N f = w := by
  unfold scC at hs
  have hK : tK B N f ≤ 268 := by
    by_cases q : f < N
    · by_cases z : isLt (B f) = true
      · rw [(tK_word q z).1]
        have := kwc_rng (wj B f (tL B N f))
        by_cases y : tL B N f ≤ 8
        · rw [if_pos y]; omega
        · rw [if_neg y]; omega
      · by_cases y : tK B N f < 257
        · omega
        · have e := (tK_mark q z).1
          by_cases x : isMk (B f) = true
          · rw [if_pos x] at e
            unfold isMk at x
            simp only [Bool.or_eq_true, decide_eq_true_eq] at x
            omega
          · rw [if_neg x] at e; omega
    · have := (tK_out (B := B) q).1; omega
  by_cases q : tK B N f = 257
  · rw [if_pos q] at hs
    rw [hs.1]
    constructor
    · intro z
      have : nI 257 = nI w := z
      have := (nI_eq (a := 257) (b := w) (by decide) (by omega)).mp this
      omega
    · intro z; omega
  · rw [if_neg q] at hs
    rw [hs.1]
    exact nI_eq (by omega) (by omega)
theorem c_exp {B : Nat → Nat} {N : Nat} {c m : Nat → Int32} (h : txt B N c m) {VN : Nat → List Nat} {g l : Nat} {c3 : Nat → Int64} (hv : vNm VN g l) (hc : vC VN g l c3) : ∀ n : Nat,
    (∀ (k d f : Nat) (t a : Int32) (nm0 : Int64) (fl fa nx : Int32), d ≤ 10 → 11 ≤ k + d → 1 ≤ k → f ≤ N → scC B N f t a nm0 fl fa nx → needX N 0 f ≤ n → Wq (fX2_readFactor_n k (nI d) (nI l) t a nm0 fl fa (nI N) nx (nI g) c3 c) (exC B N (px (tK B N) (tX B N) (tV B N VN g l) n 0 d [] f))) ∧
    (∀ (k d f : Nat) (t a : Int32) (nm0 : Int64) (fl fa nx : Int32), d ≤ 10 → 11 ≤ k + d → 1 ≤ k → f ≤ N → scC B N f t a nm0 fl fa nx → needX N 1 f ≤ n → Wq (fX2_readTerm_o (fX2_readFactor_n k) (nI d) (nI l) t a nm0 fl fa (nI N) nx (nI g) c3 c) (exC B N (px (tK B N) (tX B N) (tV B N VN g l) n 1 d [] f))) ∧
    (∀ (k d f i u : Nat) (L : List Nat) (v : Int64) (t a : Int32) (nm0 : Int64) (fl fa nx : Int32), d ≤ 10 → 11 ≤ k + d → 1 ≤ k → f ≤ N → i ≤ f → N - f + 1 < u → scC B N f t a nm0 fl fa nx → vOf v L → needX N 2 f ≤ n → Wq (fX2_readTerm_o_l9 (fX2_readFactor_n k) (nI l) (nI N) (nI g) c3 c u (nI d) v (nI i) t a nm0 fl fa nx) (exC B N (px (tK B N) (tX B N) (tV B N VN g l) n 2 d L f))) ∧
    (∀ (k d f : Nat) (t a : Int32) (nm0 : Int64) (fl fa nx : Int32), d ≤ 10 → 11 ≤ k + d → 1 ≤ k → f ≤ N → scC B N f t a nm0 fl fa nx → needX N 3 f ≤ n → Wq (fX2_readExpression_o (fX2_readTerm_o (fX2_readFactor_n k)) (nI d) (nI l) t a nm0 fl fa (nI N) nx (nI g) c3 c) (exC B N (px (tK B N) (tX B N) (tV B N VN g l) n 3 d [] f))) ∧
    (∀ (k d f i u : Nat) (L : List Nat) (v : Int64) (t a : Int32) (nm0 : Int64) (fl fa nx : Int32), d ≤ 10 → 11 ≤ k + d → 1 ≤ k → f ≤ N → i ≤ f → N - f + 1 < u → scC B N f t a nm0 fl fa nx → vOf v L → needX N 4 f ≤ n → Wq (fX2_readExpression_o_l9 (fX2_readTerm_o (fX2_readFactor_n k)) (nI l) (nI N) (nI g) c3 c u (nI d) v (nI i) t a nm0 fl fa nx) (exC B N (px (tK B N) (tX B N) (tV B N VN g l) n 4 d L f))) := by
  obtain ⟨fu, hfu, hfg⟩ := fu_any
  have hN := h.1
  have hadv := t_adv B N
  intro n
  induction n with
  | zero =>
    refine ⟨?_, ?_, ?_, ?_, ?_⟩
    · intro k d f t a nm0 fl fa nx _ _ _ _ _ z; have : 4 * (N - f) + 1 ≤ 0 := z; omega
    · intro k d f t a nm0 fl fa nx _ _ _ _ _ z; have : 4 * (N - f) + 2 ≤ 0 := z; omega
    · intro k d f i u L v t a nm0 fl fa nx _ _ _ _ _ _ _ _ z; have : 4 * (N - f) + 1 ≤ 0 := z; omega
    · intro k d f t a nm0 fl fa nx _ _ _ _ _ z; have : 4 * (N - f) + 3 ≤ 0 := z; omega
    · intro k d f i u L v t a nm0 fl fa nx _ _ _ _ _ _ _ _ z; have : 4 * (N - f) + 1 ≤ 0 := z; omega
  | succ n ih =>
    obtain ⟨iF, iT, iTr, iE, iEr⟩ := ih
    refine ⟨?_, ?_, ?_, ?_, ?_⟩
    · intro k d f t a nm0 fl fa nx hd hkd hk hf hs hneed
      have hn' : 4 * (N - f) + 1 ≤ n + 1 := hneed
      obtain ⟨k, rfl⟩ : ∃ z, k = z + 1 := ⟨k - 1, by omega⟩
      rw [px_0]
      by_cases c257 : tK B N f = 257
      · unfold scC at hs
        rw [if_pos c257] at hs
        obtain ⟨h1, h2, h3⟩ := hs
        subst h1 h2 h3
        rw [if_neg (by omega), if_neg (by omega), if_neg (by omega), if_neg (by omega), if_neg (by omega), if_neg (by omega), c_factorF (by decide)]
        refine Wq_some ⟨rfl, ?_, rfl, (by decide : ¬ (1 : Int32) = 0)⟩
        show (1 : Int32) = nI (bdK (tK B N f))
        unfold bdK
        rw [if_pos c257]; rfl
      · have zt : ∀ w : Nat, w < 257 → (t = nI w ↔ tK B N f = w) := fun w hw => tokZ hs hw
        have z33 : t = 33 ↔ tK B N f = 33 := zt 33 (by decide)
        have z40 : t = 40 ↔ tK B N f = 40 := zt 40 (by decide)
        have z42 : t = 42 ↔ tK B N f = 42 := zt 42 (by decide)
        have z48 : t = 48 ↔ tK B N f = 48 := zt 48 (by decide)
        have z49 : t = 49 ↔ tK B N f = 49 := zt 49 (by decide)
        unfold scC at hs
        rw [if_neg c257] at hs
        obtain ⟨h1, h2, h3, h4, h5⟩ := hs
        have z258 : t = 258 ↔ tK B N f = 258 := by
          rw [h1]
          have hK : tK B N f < 2 ^ 31 := by
            by_cases z : tK B N f < 257
            · omega
            · by_cases q : f < N
              · by_cases y : isLt (B f) = true
                · rw [(tK_word q y).1]
                  have := kwc_rng (wj B f (tL B N f))
                  by_cases x : tL B N f ≤ 8
                  · rw [if_pos x]; omega
                  · rw [if_neg x]; omega
                · rw [(tK_mark q y).1]
                  have := (h.2 f q).1
                  by_cases x : isMk (B f) = true
                  · rw [if_pos x]; omega
                  · rw [if_neg x]; omega
              · rw [(tK_out (B := B) q).1]; omega
          exact nI_eq (a := tK B N f) (b := 258) hK (by decide)
        subst h2 h3 h4
        obtain ⟨t2, a2, nm2, fl2, fa2, nx2, x1, x2⟩ := c_adv h t (nI f) fa nm0 hf
        rw [fX2_readFactor_n_s]
        unfold fX2_readFactor_o fX2_readFactor_o_p102 fX2_readNested_o fX2_readNested_o_p33
        have dz : nI d < 10 ↔ d < 10 := nI_ltI (a := d) (b := 10) (by omega) (by decide)
        by_cases c33 : tK B N f = 33
        · obtain ⟨y1, y2⟩ := hadv f hf (by omega)
          rw [if_neg (show ¬ tK B N f = 48 by omega), if_neg (show ¬ tK B N f = 49 by omega), if_neg (show ¬ tK B N f = 42 by omega), if_neg (show ¬ tK B N f = 258 by omega), if_pos c33, if_pos (z33.mpr c33)]
          by_cases d10 : 10 ≤ d
          · rw [if_pos d10, if_neg (fun z => by have := dz.mp z; omega), c_failN, ob_s, ob_s]
            exact Wq_some ⟨rfl, rfl, rfl, (by decide : ¬ (3 : Int32) = 0)⟩
          · have i0 := iF k (d + 1) (tX B N f) t2 a2 nm2 fl2 fa2 nx2 (by omega) (by omega) (by omega) y2 x2 (by unfold needX; simp; omega)
            rw [if_neg d10, if_pos (dz.mpr (by omega)), if_pos (z33.mpr c33), x1, ob_s, if_neg n10, nm_q, nI_1]
            cases hp : px (tK B N) (tX B N) (tV B N VN g l) n 0 (d + 1) [] (tX B N f) with
            | error e =>
              rw [hp] at i0
              refine Wq_ob (Wq_ob i0 (fun o ho => ?_)) (fun o2 ho2 => Wq_some ho2)
              rw [nm_q, nm_q, nm_q]
              exact Wq_some ho
            | ok q =>
              rw [hp] at i0
              refine Wq_ob (Q := exC B N (.ok (q.1 ++ [3], q.2))) (Wq_ob i0 (fun o ho => ?_)) (fun o2 ho2 => Wq_some ho2)
              rw [nm_q, nm_q, nm_q]
              exact Wq_some ⟨ho.1, vOf_not ho.2⟩
        · have n33 : ¬ t = 33 := fun z => c33 (z33.mp z)
          by_cases c40 : tK B N f = 40
          · obtain ⟨y1, y2⟩ := hadv f hf (by omega)
            rw [if_neg (show ¬ tK B N f = 48 by omega), if_neg (show ¬ tK B N f = 49 by omega), if_neg (show ¬ tK B N f = 42 by omega), if_neg (show ¬ tK B N f = 258 by omega), if_neg c33, if_pos c40, if_neg n33, if_pos (z40.mpr c40)]
            by_cases d10 : 10 ≤ d
            · rw [if_pos d10, if_neg (fun z => by have := dz.mp z; omega), c_failN, ob_s, ob_s]
              exact Wq_some ⟨rfl, rfl, rfl, (by decide : ¬ (3 : Int32) = 0)⟩
            · have i0 := iE k (d + 1) (tX B N f) t2 a2 nm2 fl2 fa2 nx2 (by omega) (by omega) (by omega) y2 x2 (by unfold needX; simp; omega)
              have pe := px_end (V := tV B N VN g l) hadv n 3 (d + 1) [] (tX B N f) y2 (by decide) (by unfold needX; simp; omega)
              rw [if_neg d10, if_pos (dz.mpr (by omega)), if_neg n33, x1, ob_s, if_pos rfl, nm_q, nI_1]
              cases hp : px (tK B N) (tX B N) (tV B N VN g l) n 3 (d + 1) [] (tX B N f) with
              | error e =>
                rw [hp] at i0
                refine Wq_ob (Q := exC B N (.error e)) (Wq_ob i0 (fun o ho => ?_)) (fun o2 ho2 => Wq_some ho2)
                obtain ⟨s1, s2, s3, s4⟩ := ho
                rw [s1, c_skipF s4 (by decide), ob_s]
                exact Wq_some ⟨rfl, s2, s3, s4⟩
              | ok q =>
                rw [hp] at i0 pe
                obtain ⟨p1, p2, p3⟩ := pe
                show Wq _ (exC B N (if tK B N q.2 = 41 then .ok (q.1, tX B N q.2) else .error (bdK (tK B N q.2), q.2)))
                refine Wq_ob (Q := exC B N (if tK B N q.2 = 41 then .ok (q.1, tX B N q.2) else .error (bdK (tK B N q.2), q.2))) (Wq_ob i0 (fun o ho => ?_)) (fun o2 ho2 => ?_)
                · obtain ⟨s1, s2⟩ := ho
                  have z41 : o.2.1 = 41 ↔ tK B N q.2 = 41 := tokZ s1 (by decide)
                  unfold scC at s1
                  unfold fX4_skipToken
                  by_cases c41 : tK B N q.2 = 41
                  · rw [if_neg (by omega)] at s1
                    obtain ⟨g1, g2, g3, g4, g5⟩ := s1
                    obtain ⟨t3, a3, nm3, fl3, fa3, nx3, w1, w2⟩ := c_adv h o.2.1 o.2.2.1 o.2.2.2.2.2.1 o.2.2.2.1 p1
                    rw [if_pos c41, if_pos (z41.mpr c41), g3, g4, w1, ob_s, ob_s]
                    exact Wq_some ⟨w2, s2⟩
                  · rw [if_neg c41, if_neg (fun z => c41 (z41.mp z))]
                    unfold bdK
                    by_cases e257 : tK B N q.2 = 257
                    · rw [if_pos e257] at s1
                      rw [if_pos e257, s1.2.1, c_failF (by decide), ob_s, ob_s]
                      exact Wq_some ⟨rfl, rfl, s1.2.2, (by decide : ¬ (1 : Int32) = 0)⟩
                    · rw [if_neg e257] at s1
                      rw [if_neg e257, s1.2.2.1, c_failN, ob_s, ob_s]
                      exact Wq_some ⟨rfl, rfl, s1.2.1, (by decide : ¬ (2 : Int32) = 0)⟩
                · exact Wq_some ho2
          · have n40 : ¬ t = 40 := fun z => c40 (z40.mp z)
            rw [if_neg n33, if_neg n40]
            by_cases c42 : tK B N f = 42
            · rw [if_neg (show ¬ tK B N f = 48 by omega), if_neg (show ¬ tK B N f = 49 by omega), if_pos c42, if_pos (z42.mpr c42), x1, ob_s]
              exact Wq_some ⟨x2, vOf_2⟩
            · by_cases c48 : tK B N f = 48
              · rw [if_pos c48, if_neg (fun z => c42 (z42.mp z)), if_pos (z48.mpr c48), x1, ob_s]
                exact Wq_some ⟨x2, vOf_0⟩
              · by_cases c49 : tK B N f = 49
                · rw [if_neg c48, if_pos c49, if_neg (fun z => c42 (z42.mp z)), if_neg (fun z => c48 (z48.mp z)), if_pos (z49.mpr c49), x1, ob_s]
                  exact Wq_some ⟨x2, vOf_1⟩
                · rw [if_neg c48, if_neg c49, if_neg c42, if_neg (fun z => c42 (z42.mp z)), if_neg (fun z => c48 (z48.mp z)), if_neg (fun z => c49 (z49.mp z))]
                  by_cases c258 : tK B N f = 258
                  · rw [if_pos c258, if_pos (z258.mpr c258), h5 (by omega)]
                    refine Wq_ob (c_varVal h hv hc hf c258 (name_ok h hf (by omega)) t (nI f) fa) (fun o ho => Wq_some ho)
                  · rw [if_neg c258, if_neg c33, if_neg c40, if_neg (fun z => c258 (z258.mp z)), c_failN, ob_s]
                    refine Wq_some ⟨rfl, ?_, rfl, (by decide : ¬ (2 : Int32) = 0)⟩
                    show (2 : Int32) = nI (bdK (tK B N f))
                    unfold bdK
                    rw [if_neg c257]; rfl
    · intro k d f t a nm0 fl fa nx hd hkd hk hf hs hneed
      have hn' : 4 * (N - f) + 2 ≤ n + 1 := hneed
      have pe := px_end (V := tV B N VN g l) hadv n 0 d [] f hf (by decide) (by unfold needX; simp; omega)
      have i0 := iF k d f t a nm0 fl fa nx hd hkd hk hf hs (by unfold needX; simp; omega)
      rw [px_1]
      unfold fX2_readTerm_o
      cases hp : px (tK B N) (tX B N) (tV B N VN g l) n 0 d [] f with
      | error e =>
        rw [hp] at i0
        refine Wq_ob i0 (fun o ho => ?_)
        obtain ⟨s1, s2, s3, s4⟩ := ho
        obtain ⟨fu2, hf2⟩ : ∃ z, fu = z + 1 := ⟨fu - 1, by omega⟩
        rw [hfu, hf2]
        show Wq (fX2_readTerm_o_b9 (fX2_readFactor_n k) (nI l) (nI N) (nI g) c3 c _ (nI d) o.1 0 o.2.1 o.2.2.1 o.2.2.2.1 o.2.2.2.2.1 o.2.2.2.2.2.1 o.2.2.2.2.2.2) _
        unfold fX2_readTerm_o_b9 fX2_readTerm_o_p67
        rw [if_neg (by decide), if_neg (show ¬ o.2.1 = 38 by rw [s1]; decide)]
        exact Wq_some ⟨s1, s2, s3, s4⟩
      | ok q =>
        rw [hp] at i0 pe
        obtain ⟨p1, p2, p3⟩ := pe
        have p4 := p3 (by decide)
        refine Wq_ob i0 (fun o ho => ?_)
        obtain ⟨s1, s2⟩ := ho
        rw [hfu]
        exact iTr k d q.2 0 fu q.1 o.1 o.2.1 o.2.2.1 o.2.2.2.1 o.2.2.2.2.1 o.2.2.2.2.2.1 o.2.2.2.2.2.2 hd hkd hk p1 (by omega) (by omega) s1 s2 (by unfold needX; simp; omega)
    · intro k d f i u L v t a nm0 fl fa nx hd hkd hk hf hi hu hs hval hneed
      have hn' : 4 * (N - f) + 1 ≤ n + 1 := hneed
      obtain ⟨u, rfl⟩ : ∃ z, u = z + 1 := ⟨u - 1, by omega⟩
      show Wq (fX2_readTerm_o_b9 (fX2_readFactor_n k) (nI l) (nI N) (nI g) c3 c (fX2_readTerm_o_l9 (fX2_readFactor_n k) (nI l) (nI N) (nI g) c3 c u) (nI d) v (nI i) t a nm0 fl fa nx) _
      have hs0 := hs
      have zt : t = 38 ↔ tK B N f = 38 := tokZ hs (by decide)
      rw [px_2]
      unfold fX2_readTerm_o_b9 fX2_readTerm_o_p67
      by_cases cm : tK B N f = 38
      · have hlt : f < N := by
          by_cases q : f < N
          · exact q
          · have := (tK_out (B := B) q).1; omega
        rw [if_pos cm, if_neg (show ¬ (600 : Int32) ≤ nI i from nI_ge (a := i) (b := 600) (by omega) (by omega)), if_pos (zt.mpr cm)]
        obtain ⟨y1, y2⟩ := hadv f hf (by omega)
        unfold scC at hs
        rw [if_neg (show ¬ tK B N f = 257 by omega)] at hs
        obtain ⟨h1, h2, h3, h4, h5⟩ := hs
        subst h1 h2 h3 h4
        obtain ⟨t2, a2, nm2, fl2, fa2, nx2, x1, x2⟩ := c_adv h (nI (tK B N f)) (nI f) fa nm0 hf
        rw [x1, ob_s]
        have pe := px_end (V := tV B N VN g l) hadv n 0 d [] (tX B N f) y2 (by decide) (by unfold needX; simp; omega)
        have i0 := iF k d (tX B N f) t2 a2 nm2 fl2 fa2 nx2 hd hkd hk y2 x2 (by unfold needX; simp; omega)
        cases hp : px (tK B N) (tX B N) (tV B N VN g l) n 0 d [] (tX B N f) with
        | error e =>
          rw [hp] at i0
          refine Wq_ob i0 (fun o ho => ?_)
          obtain ⟨s1, s2, s3, s4⟩ := ho
          rw [nm_q, nm_q, nm_q, nm_q, nm_q, nm_q]
          obtain ⟨u2, rfl⟩ : ∃ z, u = z + 1 := ⟨u - 1, by omega⟩
          show Wq (fX2_readTerm_o_b9 (fX2_readFactor_n k) (nI l) (nI N) (nI g) c3 c _ (nI d) _ (nI i + 1) o.2.1 o.2.2.1 o.2.2.2.1 o.2.2.2.2.1 o.2.2.2.2.2.1 o.2.2.2.2.2.2) _
          unfold fX2_readTerm_o_b9 fX2_readTerm_o_p67
          by_cases q6 : (600 : Int32) ≤ nI i + 1
          · rw [if_pos q6]; exact Wq_some ⟨s1, s2, s3, s4⟩
          · rw [if_neg q6, if_neg (show ¬ o.2.1 = 38 by rw [s1]; decide)]
            exact Wq_some ⟨s1, s2, s3, s4⟩
        | ok q =>
          rw [hp] at i0 pe
          obtain ⟨p1, p2, p3⟩ := pe
          refine Wq_ob i0 (fun o ho => ?_)
          obtain ⟨s1, s2⟩ := ho
          rw [nm_q, nm_q, nm_q, nm_q, nm_q, nm_q, nI_1]
          exact iTr k d q.2 (i + 1) u (L ++ q.1 ++ [4]) _ o.2.1 o.2.2.1 o.2.2.2.1 o.2.2.2.2.1 o.2.2.2.2.2.1 o.2.2.2.2.2.2 hd hkd hk p1 (by omega) (by omega) s1 (vOf_and hval s2) (by unfold needX; simp; omega)
      · rw [if_neg cm]
        by_cases q6 : (600 : Int32) ≤ nI i
        · rw [if_pos q6]; exact Wq_some ⟨hs0, hval⟩
        · rw [if_neg q6, if_neg (fun z => cm (zt.mp z))]
          exact Wq_some ⟨hs0, hval⟩
    · intro k d f t a nm0 fl fa nx hd hkd hk hf hs hneed
      have hn' : 4 * (N - f) + 3 ≤ n + 1 := hneed
      have pe := px_end (V := tV B N VN g l) hadv n 1 d [] f hf (by decide) (by unfold needX; simp; omega)
      have i0 := iT k d f t a nm0 fl fa nx hd hkd hk hf hs (by unfold needX; simp; omega)
      rw [px_3]
      unfold fX2_readExpression_o
      cases hp : px (tK B N) (tX B N) (tV B N VN g l) n 1 d [] f with
      | error e =>
        rw [hp] at i0
        refine Wq_ob i0 (fun o ho => ?_)
        obtain ⟨s1, s2, s3, s4⟩ := ho
        obtain ⟨fu2, hf2⟩ : ∃ z, fu = z + 1 := ⟨fu - 1, by omega⟩
        rw [hfu, hf2]
        show Wq (fX2_readExpression_o_b9 (fX2_readTerm_o (fX2_readFactor_n k)) (nI l) (nI N) (nI g) c3 c _ (nI d) o.1 0 o.2.1 o.2.2.1 o.2.2.2.1 o.2.2.2.2.1 o.2.2.2.2.2.1 o.2.2.2.2.2.2) _
        unfold fX2_readExpression_o_b9 fX2_readExpression_o_p67
        rw [if_neg (by decide), if_neg (show ¬ o.2.1 = 124 by rw [s1]; decide)]
        exact Wq_some ⟨s1, s2, s3, s4⟩
      | ok q =>
        rw [hp] at i0 pe
        obtain ⟨p1, p2, p3⟩ := pe
        have p4 := p3 (by decide)
        refine Wq_ob i0 (fun o ho => ?_)
        obtain ⟨s1, s2⟩ := ho
        rw [hfu]
        exact iEr k d q.2 0 fu q.1 o.1 o.2.1 o.2.2.1 o.2.2.2.1 o.2.2.2.2.1 o.2.2.2.2.2.1 o.2.2.2.2.2.2 hd hkd hk p1 (by omega) (by omega) s1 s2 (by unfold needX; simp; omega)
    · intro k d f i u L v t a nm0 fl fa nx hd hkd hk hf hi hu hs hval hneed
      have hn' : 4 * (N - f) + 1 ≤ n + 1 := hneed
      obtain ⟨u, rfl⟩ : ∃ z, u = z + 1 := ⟨u - 1, by omega⟩
      show Wq (fX2_readExpression_o_b9 (fX2_readTerm_o (fX2_readFactor_n k)) (nI l) (nI N) (nI g) c3 c (fX2_readExpression_o_l9 (fX2_readTerm_o (fX2_readFactor_n k)) (nI l) (nI N) (nI g) c3 c u) (nI d) v (nI i) t a nm0 fl fa nx) _
      have hs0 := hs
      have zt : t = 124 ↔ tK B N f = 124 := tokZ hs (by decide)
      rw [px_4]
      unfold fX2_readExpression_o_b9 fX2_readExpression_o_p67
      by_cases cm : tK B N f = 124
      · have hlt : f < N := by
          by_cases q : f < N
          · exact q
          · have := (tK_out (B := B) q).1; omega
        rw [if_pos cm, if_neg (show ¬ (600 : Int32) ≤ nI i from nI_ge (a := i) (b := 600) (by omega) (by omega)), if_pos (zt.mpr cm)]
        obtain ⟨y1, y2⟩ := hadv f hf (by omega)
        unfold scC at hs
        rw [if_neg (show ¬ tK B N f = 257 by omega)] at hs
        obtain ⟨h1, h2, h3, h4, h5⟩ := hs
        subst h1 h2 h3 h4
        obtain ⟨t2, a2, nm2, fl2, fa2, nx2, x1, x2⟩ := c_adv h (nI (tK B N f)) (nI f) fa nm0 hf
        rw [x1, ob_s]
        have pe := px_end (V := tV B N VN g l) hadv n 1 d [] (tX B N f) y2 (by decide) (by unfold needX; simp; omega)
        have i0 := iT k d (tX B N f) t2 a2 nm2 fl2 fa2 nx2 hd hkd hk y2 x2 (by unfold needX; simp; omega)
        cases hp : px (tK B N) (tX B N) (tV B N VN g l) n 1 d [] (tX B N f) with
        | error e =>
          rw [hp] at i0
          refine Wq_ob i0 (fun o ho => ?_)
          obtain ⟨s1, s2, s3, s4⟩ := ho
          rw [nm_q, nm_q, nm_q, nm_q, nm_q, nm_q]
          obtain ⟨u2, rfl⟩ : ∃ z, u = z + 1 := ⟨u - 1, by omega⟩
          show Wq (fX2_readExpression_o_b9 (fX2_readTerm_o (fX2_readFactor_n k)) (nI l) (nI N) (nI g) c3 c _ (nI d) _ (nI i + 1) o.2.1 o.2.2.1 o.2.2.2.1 o.2.2.2.2.1 o.2.2.2.2.2.1 o.2.2.2.2.2.2) _
          unfold fX2_readExpression_o_b9 fX2_readExpression_o_p67
          by_cases q6 : (600 : Int32) ≤ nI i + 1
          · rw [if_pos q6]; exact Wq_some ⟨s1, s2, s3, s4⟩
          · rw [if_neg q6, if_neg (show ¬ o.2.1 = 124 by rw [s1]; decide)]
            exact Wq_some ⟨s1, s2, s3, s4⟩
        | ok q =>
          rw [hp] at i0 pe
          obtain ⟨p1, p2, p3⟩ := pe
          refine Wq_ob i0 (fun o ho => ?_)
          obtain ⟨s1, s2⟩ := ho
          rw [nm_q, nm_q, nm_q, nm_q, nm_q, nm_q, nI_1]
          exact iEr k d q.2 (i + 1) u (L ++ q.1 ++ [5]) _ o.2.1 o.2.2.1 o.2.2.2.1 o.2.2.2.2.1 o.2.2.2.2.2.1 o.2.2.2.2.2.2 hd hkd hk p1 (by omega) (by omega) s1 (vOf_or hval s2) (by unfold needX; simp; omega)
      · rw [if_neg cm]
        by_cases q6 : (600 : Int32) ≤ nI i
        · rw [if_pos q6]; exact Wq_some ⟨hs0, hval⟩
        · rw [if_neg q6, if_neg (fun z => cm (zt.mp z))]
          exact Wq_some ⟨hs0, hval⟩
