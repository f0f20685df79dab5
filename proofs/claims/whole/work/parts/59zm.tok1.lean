/-! ===== pure rows 60: names ===== -/
def leL : List Nat → Nat
  | [] => 0
  | a :: t => a + 256 * leL t
def okB (W : List Nat) : Prop := ∀ b, b ∈ W → 0 < b ∧ b < 256
theorem okB_t {a : Nat} {W : List Nat} (h : okB (a :: W)) : (0 < a ∧ a < 256) ∧ okB W := ⟨h a (List.mem_cons_self), fun b hb => h b (List.mem_cons_of_mem a hb)⟩
theorem leL_lt : ∀ {W : List Nat}, okB W → leL W < 256 ^ W.length := by
  intro W
  induction W with
  | nil => intro _; exact Nat.one_pos
  | cons a t ih =>
    intro h
    obtain ⟨⟨h1, h2⟩, h3⟩ := okB_t h
    have := ih h3
    show a + 256 * leL t < 256 ^ (t.length + 1)
    rw [Nat.pow_succ]
    omega
theorem leL_inj : ∀ {W U : List Nat}, okB W → okB U → leL W = leL U → W = U := by
  intro W
  induction W with
  | nil =>
    intro U _ hU e
    cases U with
    | nil => rfl
    | cons b u =>
      have := (okB_t hU).1
      have e' : 0 = b + 256 * leL u := e
      omega
  | cons a t ih =>
    intro U hW hU e
    obtain ⟨⟨h1, h2⟩, h3⟩ := okB_t hW
    cases U with
    | nil =>
      have e' : a + 256 * leL t = 0 := e
      omega
    | cons b u =>
      obtain ⟨⟨g1, g2⟩, g3⟩ := okB_t hU
      have e' : a + 256 * leL t = b + 256 * leL u := e
      have e1 : a = b := by omega
      have e2 : leL t = leL u := by omega
      rw [e1, ih h3 g3 e2]
theorem lN_inj64 {a b : Nat} (ha : a < 2 ^ 64) (hb : b < 2 ^ 64) : lN a = lN b ↔ a = b := by
  constructor
  · intro h
    have := congrArg (fun x : Int64 => x.toBitVec.toNat) h
    have e : (BitVec.ofNat 64 a).toNat = (BitVec.ofNat 64 b).toNat := this
    rw [BitVec.toNat_ofNat, BitVec.toNat_ofNat, Nat.mod_eq_of_lt ha, Nat.mod_eq_of_lt hb] at e
    exact e
  · intro h; rw [h]
theorem leL_64 {W : List Nat} (h : okB W) (hl : W.length ≤ 8) : leL W < 2 ^ 64 := by
  have h1 := leL_lt h
  have h2 : 256 ^ W.length ≤ 256 ^ 8 := Nat.pow_le_pow_right (by decide) hl
  exact Nat.lt_of_lt_of_le h1 h2
theorem okB_rev {W : List Nat} (h : okB W) : okB W.reverse := fun b hb => h b (List.mem_reverse.mp hb)
/-- the name as the class packs it, and as the reference does -/
def nC (W : List Nat) : Int64 := lN (leL W)
def nM (W : List Nat) : Int64 := lN (leL W.reverse)
theorem nC_eq {W U : List Nat} (hW : okB W) (lW : W.length ≤ 8) (hU : okB U) (lU : U.length ≤ 8) : nC W = nC U ↔ W = U := by
  unfold nC
  rw [lN_inj64 (leL_64 hW lW) (leL_64 hU lU)]
  exact ⟨leL_inj hW hU, fun e => by rw [e]⟩
theorem nM_eq {W U : List Nat} (hW : okB W) (lW : W.length ≤ 8) (hU : okB U) (lU : U.length ≤ 8) : nM W = nM U ↔ W = U := by
  unfold nM
  rw [lN_inj64 (leL_64 (okB_rev hW) (by rw [List.length_reverse]; exact lW)) (leL_64 (okB_rev hU) (by rw [List.length_reverse]; exact lU))]
  refine ⟨fun e => ?_, fun e => by rw [e]⟩
  have := leL_inj (okB_rev hW) (okB_rev hU) e
  exact List.reverse_inj.mp this
theorem leL_snoc : ∀ (W : List Nat) (b : Nat), leL (W ++ [b]) = leL W + b * 256 ^ W.length := by
  intro W
  induction W with
  | nil => intro b; show b + 256 * 0 = 0 + b * 256 ^ 0; omega
  | cons a t ih =>
    intro b
    show a + 256 * leL (t ++ [b]) = a + 256 * leL t + b * 256 ^ (t.length + 1)
    rw [ih, Nat.pow_succ, Nat.mul_add, Nat.add_assoc, Nat.mul_left_comm, Nat.mul_comm 256 (256 ^ t.length)]
theorem l_or {x y k : Nat} {s : Int64} (hs : (s.toBitVec.smod 64).toNat = k) (hx : x < 2 ^ k) (hy : x + y * 2 ^ k < 2 ^ 64) : lN x ||| (lN y <<< s) = lN (x + y * 2 ^ k) ∧ (lN y <<< s) ||| lN x = lN (x + y * 2 ^ k) := by
  have hy1 : y * 2 ^ k < 2 ^ 64 := by omega
  have hx1 : x < 2 ^ 64 := by omega
  have hy2 : y < 2 ^ 64 := Nat.lt_of_le_of_lt (Nat.le_mul_of_pos_right y (Nat.two_pow_pos k)) hy1
  have e : lN x ||| (lN y <<< s) = lN (x + y * 2 ^ k) := by
    apply Int64.toBitVec_inj.1
    apply BitVec.eq_of_toNat_eq
    show (BitVec.ofNat 64 x ||| (BitVec.ofNat 64 y <<< (s.toBitVec.smod 64).toNat)).toNat = (BitVec.ofNat 64 (x + y * 2 ^ k)).toNat
    rw [hs, BitVec.toNat_or, BitVec.toNat_shiftLeft, BitVec.toNat_ofNat, BitVec.toNat_ofNat, BitVec.toNat_ofNat, Nat.mod_eq_of_lt hx1, Nat.mod_eq_of_lt hy2, Nat.shiftLeft_eq, Nat.mod_eq_of_lt hy1, Nat.mod_eq_of_lt hy]
    have := Nat.two_pow_add_eq_or_of_lt hx y
    rw [Nat.or_comm, Nat.mul_comm y (2 ^ k), ← this, Nat.add_comm]
  refine ⟨e, ?_⟩
  rw [← e]
  apply Int64.toBitVec_inj.1
  exact BitVec.or_comm _ _
theorem p256 (l : Nat) : 256 ^ l = 2 ^ (8 * l) := by rw [Nat.pow_mul]
theorem sh8b : ∀ i, i < 8 → (((nI (8 * i)).toInt64 &&& 63).toBitVec.smod 64).toNat = 8 * i := fun i hi => (sh8 i hi).1
/-- one more byte of a name -/
theorem nC_snoc {W : List Nat} {b : Nat} (hW : okB W) (hl : W.length < 8) (hb : 0 < b ∧ b < 256) : nC W ||| (lN b <<< ((nI (8 * W.length)).toInt64 &&& 63)) = nC (W ++ [b]) := by
  unfold nC
  have h1 := leL_lt hW
  have hs : okB (W ++ [b]) := fun c hc => by
    rcases List.mem_append.mp hc with z | z
    · exact hW c z
    · rw [List.mem_singleton.mp z]; exact hb
  have h2 := leL_64 hs (by rw [List.length_append]; exact hl)
  rw [leL_snoc, p256] at h2
  rw [p256] at h1
  rw [leL_snoc, p256]
  exact (l_or (sh8b _ hl) h1 h2).1
theorem nM_snoc {W : List Nat} {b : Nat} (hW : okB W) (hl : W.length < 8) (hb : 0 < b ∧ b < 256) : (nM W <<< ((8 : Int32).toInt64 &&& 63)) ||| lN b = nM (W ++ [b]) := by
  unfold nM
  have e : (W ++ [b]).reverse = b :: W.reverse := by rw [List.reverse_append]; rfl
  rw [e]
  have hs : okB (b :: W.reverse) := fun c hc => by
    rcases List.mem_cons.mp hc with z | z
    · rw [z]; exact hb
    · exact okB_rev hW c z
  have h2 := leL_64 hs (by rw [List.length_cons, List.length_reverse]; exact hl)
  have h3 : leL (b :: W.reverse) = b + leL W.reverse * 2 ^ 8 := by show b + 256 * leL W.reverse = _; omega
  rw [h3] at h2 ⊢
  exact (l_or (k := 8) (by decide) (by omega) h2).2
