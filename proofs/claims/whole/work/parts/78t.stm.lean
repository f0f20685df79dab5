/-! ===== pure rows 96: statements: what both read ===== -/
def shp (B : Nat → Nat) (N par n n2 : Nat) (P : Nat → Nat → Nat) (L : Nat → List Nat) : Prop := ∀ s, n ≤ s → s < n2 →
  P 0 s ≤ 7 ∧ (P 0 s = 0 → P 6 s < 5) ∧ (P 0 s = 3 → tK B N (P 7 s) = 258 ∧ P 7 s ≤ N) ∧ (P 2 s = par ∨ (n ≤ P 2 s ∧ P 2 s < s ∧ (P 0 (P 2 s) = 1 ∨ P 0 (P 2 s) = 2))) ∧ (∀ a, a = 3 ∨ a = 4 ∨ a = 5 → P a s = 40 ∨ (s < P a s ∧ P a s < n2)) ∧ (P 0 s < 3 ∨ P 0 s = 4 ∨ P 0 s = 5 → cv (L s)) ∧ (P 0 s = 3 ∨ P 0 s = 6 ∨ P 0 s = 7 → L s = [1]) ∧ (P 0 s = 2 → P 5 s = 40) ∧ P 1 s ≤ N
def okMm (B : Nat → Nat) (N par f n : Nat) (r : Rt) : Prop := ∀ q, r = .ok q → n < q.1 ∧ q.1 ≤ 40 ∧ f < q.2.1 ∧ q.2.1 ≤ N ∧ ¬ tK B N q.2.1 = 257 ∧ q.2.2.1 3 n = 40 ∧ shp B N par n q.1 q.2.2.1 q.2.2.2
def okS (B : Nat → Nat) (N par f n : Nat) (r : Rt) : Prop := ∀ q, r = .ok q → n ≤ q.1 ∧ q.1 ≤ 40 ∧ f ≤ q.2.1 ∧ q.2.1 ≤ N ∧ ¬ tK B N q.2.1 = 257 ∧ ¬ bgS (tK B N q.2.1) ∧ shp B N par n q.1 q.2.2.1 q.2.2.2
theorem goT_ok {B : Nat → Nat} {N f x : Nat} (h : goT B N f = .ok x) : x = f ∧ ¬ tK B N f = 257 := by
  unfold goT at h
  split at h
  · cases h
  · rename_i hk; cases h; exact ⟨rfl, hk⟩
theorem skT_ok {B : Nat → Nat} {N w f x : Nat} (h : skT B N w f = .ok x) : tK B N f = w ∧ x = tX B N f ∧ ¬ tK B N x = 257 := by
  unfold skT at h
  split at h
  · rename_i hk
    obtain ⟨h1, h2⟩ := goT_ok h
    subst h1
    exact ⟨hk, rfl, h2⟩
  · cases h
theorem opT_ok {B : Nat → Nat} {N d f x : Nat} (h : opT B N d f = .ok x) : d < 10 ∧ tK B N f = 123 ∧ x = tX B N f ∧ ¬ tK B N x = 257 := by
  unfold opT at h
  split at h
  · cases h
  · rename_i hk
    obtain ⟨h1, h2, h3⟩ := skT_ok h
    exact ⟨by omega, h1, h2, h3⟩
theorem bnd_ok {α β : Type} {r : Except (Nat × Nat) α} {k : α → Except (Nat × Nat) β} {y : β} (h : bnd r k = .ok y) : ∃ x, r = .ok x ∧ k x = .ok y := by
  cases r with
  | error e => cases h
  | ok x => exact ⟨x, rfl, h⟩
theorem ok_one {B : Nat → Nat} {N par f n kd v ca : Nat} {L : List Nat} {r : Except (Nat × Nat) Nat} (hn : n < 40) (hf : f ≤ N) (hkd : kd ≤ 7) (hv : kd = 0 → v < 5) (hr : ∀ f2, r = .ok f2 → f < f2 ∧ f2 ≤ N ∧ ¬ tK B N f2 = 257 ∧ (kd = 3 → tK B N ca = 258 ∧ ca ≤ N) ∧ (kd < 3 ∨ kd = 4 ∨ kd = 5 → cv L) ∧ (kd = 3 ∨ kd = 6 ∨ kd = 7 → L = [1])) : okMm B N par f n (oneR n kd f par v ca L r) := by
  intro q hq
  cases r with
  | error e => cases hq
  | ok f2 =>
    cases hq
    obtain ⟨h1, h2, h3, h4, h5, h6⟩ := hr f2 rfl
    refine ⟨Nat.lt_succ_self n, hn, h1, h2, h3, rfl, fun s s1 s2 => ⟨hkd, hv, h4, Or.inl rfl, fun a ha => ?_, h5, h6, fun _ => rfl, hf⟩⟩
    rcases ha with z | z | z <;> subst z <;> exact Or.inl rfl
theorem hd_ok {B : Nat → Nat} {N : Nat} {VN : Nat → List Nat} {g l d f f3 : Nat} {L : List Nat} (hf : f ≤ N) (hk : ¬ tK B N f = 256) (h : hdR B N VN g l d f = .ok (L, f3)) : d < 10 ∧ f < f3 ∧ f3 ≤ N ∧ ¬ tK B N f3 = 257 ∧ cv L ∧ ∃ q, goT B N (tX B N f) = .ok (tX B N f) ∧ exP B N VN g l (tX B N f) = .ok q ∧ opT B N d q.2 = .ok f3 := by
  unfold hdR at h
  cases hg : goT B N (tX B N f) with
  | error e => rw [hg] at h; cases h
  | ok f1 =>
    rw [hg] at h
    dsimp only at h
    obtain ⟨e1, -⟩ := goT_ok hg
    subst e1
    cases hx : exP B N VN g l (tX B N f) with
    | error e => rw [hx] at h; cases h
    | ok q =>
      rw [hx] at h
      dsimp only at h
      cases ho : opT B N d q.2 with
      | error e => rw [ho] at h; cases h
      | ok f4 =>
        rw [ho] at h
        cases h
        obtain ⟨o1, o2, o3, o4⟩ := opT_ok ho
        have hX := tX_le (B := B) hf
        obtain ⟨x1, x2, x3, x4⟩ := exP_ok hX hx
        have l1 := tX_gt hf hk
        have l2 := tX_gt (B := B) x2 (by omega)
        have l3 := tX_le (B := B) x2
        exact ⟨o1, by omega, by omega, o4, x4, q, rfl, rfl, ho⟩
theorem shp_br {B : Nat → Nat} {N par f n kd m1 m2 : Nat} {L : List Nat} {P1 P2 : Nat → Nat → Nat} {L1 L2 : Nat → List Nat} {els : Nat} (hf : f ≤ N) (h12 : kd = 1 ∨ kd = 2) (hL : cv L) (hm : n + 1 ≤ m1) (hm2 : m1 ≤ m2) (h1 : shp B N n (n + 1) m1 P1 L1) (h2 : m1 < m2 → shp B N n m1 m2 P2 L2) (he : els = 40 ∨ (n < els ∧ els < m2)) (he2 : kd = 2 → els = 40) : shp B N par n m2 (brP n kd f par (if n + 1 < m1 then n + 1 else 40) els m1 P1 P2) (brL n m1 L L1 L2) := by
  intro s s1 s2
  have b0 : ∀ a, brP n kd f par (if n + 1 < m1 then n + 1 else 40) els m1 P1 P2 a n = rwP kd f par (if n + 1 < m1 then n + 1 else 40) els 0 0 a := fun a => by unfold brP; rw [if_pos rfl]
  have b1 : ∀ a x, n < x → x < m1 → brP n kd f par (if n + 1 < m1 then n + 1 else 40) els m1 P1 P2 a x = P1 a x := fun a x hx hy => by unfold brP; rw [if_neg (by omega), if_pos hy]
  have b2 : ∀ a x, m1 ≤ x → brP n kd f par (if n + 1 < m1 then n + 1 else 40) els m1 P1 P2 a x = P2 a x := fun a x hx => by unfold brP; rw [if_neg (by omega), if_neg (by omega)]
  by_cases hs : s = n
  · subst hs
    have l0 : brL s m1 L L1 L2 s = L := by unfold brL; rw [if_pos rfl]
    rw [b0, b0, b0, b0, b0, b0, l0]
    refine ⟨by show kd ≤ 7; omega, fun z => absurd z (by show ¬ kd = 0; omega), fun z => absurd z (by show ¬ kd = 3; omega), Or.inl rfl, fun a ha => ?_, fun _ => hL, fun z => absurd z (by show ¬ (kd = 3 ∨ kd = 6 ∨ kd = 7); omega), fun z => he2 z, hf⟩
    rw [b0]
    rcases ha with z | z | z
    · subst z; exact Or.inl rfl
    · subst z
      show (if s + 1 < m1 then s + 1 else 40) = 40 ∨ _
      by_cases hz : s + 1 < m1
      · refine Or.inr ?_
        show s < (if s + 1 < m1 then s + 1 else 40) ∧ (if s + 1 < m1 then s + 1 else 40) < m2
        rw [if_pos hz]
        omega
      · rw [if_neg hz]; exact Or.inl rfl
    · subst z; exact he
  · by_cases hs1 : s < m1
    · have l1 : brL n m1 L L1 L2 s = L1 s := by unfold brL; rw [if_neg hs, if_pos hs1]
      obtain ⟨x1, x2, x3, x4, x5, x6, x7, x8, x9⟩ := h1 s (by omega) hs1
      rw [b1 0 s (by omega) hs1, b1 6 s (by omega) hs1, b1 7 s (by omega) hs1, b1 2 s (by omega) hs1, b1 5 s (by omega) hs1, b1 1 s (by omega) hs1, l1]
      refine ⟨x1, x2, x3, ?_, fun a ha => ?_, x6, x7, x8, x9⟩
      · rcases x4 with z | ⟨z1, z2, z3⟩
        · refine Or.inr ⟨by omega, by omega, ?_⟩
          rw [z, b0]
          exact h12
        · refine Or.inr ⟨by omega, z2, ?_⟩
          rw [b1 0 _ (by omega) (by omega)]
          exact z3
      · rw [b1 a s (by omega) hs1]
        rcases x5 a ha with z | ⟨z1, z2⟩
        · exact Or.inl z
        · exact Or.inr ⟨z1, by omega⟩
    · have l2 : brL n m1 L L1 L2 s = L2 s := by unfold brL; rw [if_neg hs, if_neg hs1]
      obtain ⟨x1, x2, x3, x4, x5, x6, x7, x8, x9⟩ := h2 (by omega) s (by omega) s2
      rw [b2 0 s (by omega), b2 6 s (by omega), b2 7 s (by omega), b2 2 s (by omega), b2 5 s (by omega), b2 1 s (by omega), l2]
      refine ⟨x1, x2, x3, ?_, fun a ha => ?_, x6, x7, x8, x9⟩
      · rcases x4 with z | ⟨z1, z2, z3⟩
        · refine Or.inr ⟨by omega, by omega, ?_⟩
          rw [z, b0]
          exact h12
        · refine Or.inr ⟨by omega, z2, ?_⟩
          rw [b2 0 _ (by omega)]
          exact z3
      · rw [b2 a s (by omega)]
        exact x5 a ha
theorem ok_join {B : Nat → Nat} {N par f n : Nat} {r1 r2 : Rt} (h1 : okMm B N par f n r1) (h2 : ∀ q1, r1 = .ok q1 → okS B N par q1.2.1 q1.1 r2) : okS B N par f n (joinR n r1 r2) := by
  intro q hq
  cases r1 with
  | error e => cases hq
  | ok q1 =>
    cases r2 with
    | error e => cases hq
    | ok q2 =>
      cases hq
      obtain ⟨a1, a2, a3, a4, a5, a6, a7⟩ := h1 q1 rfl
      obtain ⟨c1, c2, c3, c4, c5, c6, c7⟩ := h2 q1 rfl q2 rfl
      refine ⟨by show n ≤ q2.1; omega, c2, by show f ≤ q2.2.1; omega, c4, c5, c6, fun s s1 s2 => ?_⟩
      dsimp only at s2 ⊢
      by_cases hs : s < q1.1
      · obtain ⟨x1, x2, x3, x4, x5, x6, x7, x8, x9⟩ := a7 s s1 hs
        have e : ∀ a, ¬ a = 3 → (if a = 3 ∧ s = n then (if q1.1 < q2.1 then q1.1 else 40) else if s < q1.1 then q1.2.2.1 a s else q2.2.2.1 a s) = q1.2.2.1 a s := fun a ha => by rw [if_neg (fun z => ha z.1), if_pos hs]
        rw [e 0 (by decide), e 6 (by decide), e 7 (by decide), e 2 (by decide), e 5 (by decide), e 1 (by decide), if_pos hs]
        refine ⟨x1, x2, x3, ?_, fun a ha => ?_, x6, x7, x8, x9⟩
        · rcases x4 with z | ⟨z1, z2, z3⟩
          · exact Or.inl z
          · refine Or.inr ⟨z1, z2, ?_⟩
            rw [if_neg (fun z => absurd z.1 (by decide)), if_pos (by omega)]
            exact z3
        · by_cases h3 : a = 3 ∧ s = n
          · rw [if_pos h3]
            by_cases hlt : q1.1 < q2.1
            · rw [if_pos hlt]
              exact Or.inr ⟨hs, hlt⟩
            · rw [if_neg hlt]; exact Or.inl rfl
          · rw [if_neg h3, if_pos hs]
            rcases x5 a ha with z | ⟨z1, z2⟩
            · exact Or.inl z
            · exact Or.inr ⟨z1, by omega⟩
      · obtain ⟨x1, x2, x3, x4, x5, x6, x7, x8, x9⟩ := c7 s (by omega) s2
        have e : ∀ a, (if a = 3 ∧ s = n then (if q1.1 < q2.1 then q1.1 else 40) else if s < q1.1 then q1.2.2.1 a s else q2.2.2.1 a s) = q2.2.2.1 a s := fun a => by rw [if_neg (fun z => absurd z.2 (by omega)), if_neg hs]
        rw [e, e, e, e, e, e, if_neg hs]
        refine ⟨x1, x2, x3, ?_, fun a ha => ?_, x6, x7, x8, x9⟩
        · rcases x4 with z | ⟨z1, z2, z3⟩
          · exact Or.inl z
          · refine Or.inr ⟨by omega, z2, ?_⟩
            rw [if_neg (fun z => absurd z.1 (by decide)), if_neg (by omega)]
            exact z3
        · rw [e]
          exact x5 a ha
theorem ok_br {B : Nat → Nat} {N : Nat} {VN : Nat → List Nat} {g l d par f n kd : Nat} {rs1 rs2 : Rt} (hf : f ≤ N) (hk : ¬ tK B N f = 256) (hn : n < 40) (h12 : kd = 1 ∨ kd = 2) (h1 : ∀ L f3, hdR B N VN g l d f = .ok (L, f3) → okS B N n f3 (n + 1) rs1) (h2 : ∀ w f7, rs1 = .ok w → kd = 1 → tK B N (tX B N w.2.1) = 261 → opT B N d (tX B N (tX B N w.2.1)) = .ok f7 → okS B N n f7 w.1 rs2) : okMm B N par f n (brX B N VN g l d par f n kd rs1 rs2) := by
  intro q hq
  rw [brX_hd] at hq
  cases hhd : hdR B N VN g l d f with
  | error e => rw [hhd] at hq; cases hq
  | ok x =>
    rw [hhd] at hq
    obtain ⟨k1, k2, k3, k4, k5, -⟩ := hd_ok hf hk (L := x.1) (f3 := x.2) hhd
    dsimp only at hq
    unfold brY at hq
    cases hrs : rs1 with
    | error e => rw [hrs] at hq; cases hq
    | ok w =>
      rw [hrs] at hq
      dsimp only at hq
      obtain ⟨a1, a2, a3, a4, a5, a6, a7⟩ := h1 x.1 x.2 hhd w hrs
      cases hsk : skT B N 125 w.2.1 with
      | error e => rw [hsk] at hq; cases hq
      | ok f5 =>
        rw [hsk] at hq
        dsimp only at hq
        obtain ⟨s1, s2, s3⟩ := skT_ok hsk
        subst s2
        have l1 := tX_gt (B := B) a4 (by omega)
        have l2 := tX_le (B := B) a4
        split at hq
        · rename_i hel
          unfold brE at hq
          cases hg : goT B N (tX B N (tX B N w.2.1)) with
          | error e => rw [hg] at hq; cases hq
          | ok f6 =>
            rw [hg] at hq
            dsimp only at hq
            obtain ⟨e6, -⟩ := goT_ok hg
            subst e6
            have l3 := tX_gt (B := B) l2 (by omega)
            have l4 := tX_le (B := B) l2
            cases hb : blkR B N d (tX B N (tX B N w.2.1)) rs2 with
            | error e => rw [hb] at hq; cases hq
            | ok b2 =>
              rw [hb] at hq
              unfold blkR at hb
              cases ho : opT B N d (tX B N (tX B N w.2.1)) with
              | error e => rw [ho] at hb; cases hb
              | ok f7 =>
                rw [ho] at hb
                dsimp only at hb
                obtain ⟨o1, o2, o3, o4⟩ := opT_ok ho
                have l5 := tX_gt (B := B) l4 (by omega)
                have l6 := tX_le (B := B) l4
                have hok2 := h2 w f7 hrs hel.1 hel.2 ho
                cases hr2 : rs2 with
                | error e => rw [hr2] at hb; cases hb
                | ok w2 =>
                  rw [hr2] at hb
                  dsimp only at hb
                  obtain ⟨c1, c2, c3, c4, c5, c6, c7⟩ := hok2 w2 hr2
                  cases hs2 : skT B N 125 w2.2.1 with
                  | error e => rw [hs2] at hb; cases hb
                  | ok f9 =>
                    rw [hs2] at hb
                    cases hb
                    cases hq
                    obtain ⟨t1, t2, t3⟩ := skT_ok hs2
                    subst t2
                    have l7 := tX_gt (B := B) c4 (by omega)
                    have l8 := tX_le (B := B) c4
                    refine ⟨by show n < w2.1; omega, c2, by show f < tX B N w2.2.1; omega, l8, t3, ?_, ?_⟩
                    · dsimp only [brP]
                      rw [if_pos rfl]
                      rfl
                    · refine shp_br hf h12 k5 a1 c1 a7 (fun _ => c7) ?_ (fun z => by omega)
                      dsimp only
                      by_cases hz : w.1 < w2.1
                      · rw [if_pos hz]; exact Or.inr ⟨by omega, hz⟩
                      · rw [if_neg hz]; exact Or.inl rfl
        · cases hq
          refine ⟨by show n < w.1; omega, a2, by show f < tX B N w.2.1; omega, l2, s3, ?_, ?_⟩
          · dsimp only [brP]
            rw [if_pos rfl]
            rfl
          · exact shp_br hf h12 k5 a1 (Nat.le_refl _) a7 (fun z => absurd z (Nat.lt_irrefl _)) (Or.inl rfl) (fun _ => rfl)
