/-! ===== pure rows 75: an expression of the reference ===== -/
/-- the expression that begins at the token f: its code and the token behind it, or the fault -/
def exP (B : Nat → Nat) (N : Nat) (VN : Nat → List Nat) (g l f : Nat) : PX := match px (tK B N) (tX B N) (tV B N VN g l) (needX N 3 f) 3 0 [] f with
  | .error e => .error e
  | .ok q => if tK B N q.2 = 257 then .error (1, q.2) else .ok q
theorem r_takeExp {B : Nat → Nat} {N : Nat} {c m : Nat → Int32} (h : txt B N c m) {VN : Nat → List Nat} {g l p s : Nat} {cg cn : Nat → Int64} {cl : Nat → Int32} (hv : vNm VN g l) (hm : vM VN g l p cg cl cn) (hp : p < 6) (hs : s < 40) (P : List Nat) (wa os0 dd0 : Int32) (c1 c3 c7 c8 : Nat → Int32) {f : Nat} (hf : f ≤ N) (nm0 : Int64) (hnm : nmAt B N f nm0) (hco : codeIs c7 P) (hP : P.length ≤ f) :
    Wq (fX11_takeExp (nI p) (nI s) (nI N) (nI f) (nI (tE B N f)) (nI (kM (tK B N f))) nm0 0 wa (nI g) (nI P.length) os0 dd0 c1 m c3 cg cl cn c7 c8) (exEnd B N s P wa (upd c1 s (nI P.length)) c8 (exP B N VN g l f)) := by
  obtain ⟨fu, hfu, hfg⟩ := fu_any
  have hN := h.1
  have fin := run_end (V := tV B N VN g l) (t_adv B N) (N - f + 1) true f [] [] 0 hf (by omega)
  have e := run_px (V := tV B N VN g l) (t_adv B N) (n := needX N 3 f) (n2 := N - f + 1) hf (Nat.le_refl _) (by omega)
  have lp := r_takeExp_l h hv hm hp hs P wa (upd c1 s (nI P.length)) c8 (N - f + 1) fu true f [] [] nm0 c3 c7 fin (by omega) hf trivial (fun a ha => by cases ha) (by rw [List.append_nil]; exact hco) (by show P.length + 0 + 0 ≤ f; omega) hnm (by decide)
  have e2 : run (tK B N) (tX B N) (tV B N VN g l) (N - f + 1) true f [] [] (dp []) = exP B N VN g l f := e
  rw [e2, List.append_nil] at lp
  unfold fX11_takeExp
  rw [bd_eq _ (inb_nI (j := s) (n := 40) hs (by decide)), nm_q, nI_clamp (n := s) (by omega), hfu]
  exact lp
