def tg {α : Type} (k : Nat) (x : Option α) : Option (Nat × α) := match x with
  | none => none
  | some a => some (k, a)
theorem tg_some {α : Type} {k : Nat} {x : Option α} {t : Nat} {a : α} (h : tg k x = some (t, a)) : t = k ∧ x = some a := by
  cases x with
  | none => cases h
  | some b => cases h; exact ⟨rfl, rfl⟩
def tgn {α : Type} (l : List Nat) (x : Option (Nat × α)) : Option (Nat × α) := match x with
  | none => none
  | some (t, a) => if t ∈ l then some (t, a) else none
theorem tgn_some {α : Type} {l : List Nat} {x : Option (Nat × α)} {t : Nat} {a : α} (h : tgn l x = some (t, a)) : t ∈ l ∧ x = some (t, a) := by
  cases x with
  | none => cases h
  | some b =>
    obtain ⟨b1, b2⟩ := b
    unfold tgn at h
    by_cases hb : b1 ∈ l
    · simp only [if_pos hb] at h; cases h; exact ⟨hb, rfl⟩
    · simp only [if_neg hb] at h; cases h
noncomputable def fX10_stepsFrom_dt (a0 : Int32) (v6_rules : Int32) (v6_ends : Int32) (v6_height : Int32) (v6_systemChanges : Int32) (c7 : Nat → Int32) (c8 : Nat → Int32) (c9 : Nat → Int32) (c10 : Nat → Int32) (c11 : Nat → Int32) (c12 : Nat → Int32) (c13 : Nat → Int32) (c14 : Nat → Int32) : Option (Nat × Int32 × Int32 × (Nat → Int32) × Int32 × Int32 × (Nat → Int32) × (Nat → Int32)) :=
  tg 0 <|
  ob (fX1_bringUpToDate (-1) v6_rules v6_systemChanges c7 (fun _ => 0) c8 c9 c10 c11 c12 c13) fun o4 =>
  ob (fX7_buildWord 496 30 30 0 v6_ends v6_height (fun _ => 0) c14 o4.2 (fun _ => 0)) fun o5 =>
  ob (fX7_stepsFrom a0 496 o5.1 o5.2.1) fun o6 =>
  some (o6.1, (o4.1, o4.2, 30, o5.1, o5.2.2, o5.2.1))
noncomputable def fX10_stepsFrom_x (a0 : Int32) (v1_solvedAt : Int32) (v2_rules : Int32) (v2_ends : Int32) (v2_height : Int32) (v2_systemChanges : Int32) (c3 : Nat → Int32) (c4 : Nat → Int32) (c5 : Nat → Int32) (c6 : Nat → Int32) (c7 : Nat → Int32) (c8 : Nat → Int32) (c9 : Nat → Int32) (c10 : Nat → Int32) (v11_most : Int32) (v11_height : Int32) (c12 : Nat → Int32) (c13 : Nat → Int32) (c14 : Nat → Int32) : Option (Nat × Int32 × Int32 × (Nat → Int32) × Int32 × (Nat → Int32) × (Nat → Int32)) :=
  tg 0 <|
  ob (fX1_bringUpToDate v1_solvedAt v2_rules v2_systemChanges c3 c4 c5 c6 c7 c8 c9 c10) fun o2 =>
  ob (fX7_buildWord 496 30 v11_most v11_height v2_ends v2_height c12 c13 o2.2 c14) fun o3 =>
  ob (fX7_stepsFrom a0 496 o3.1 o3.2.1) fun o4 =>
  some (o4.1, (o2.1, o2.2, o3.1, o3.2.1, o3.2.2))
noncomputable def fX10_far_dt_p100027 (v6_rules : Int32) (v6_ends : Int32) (v6_height : Int32) (v6_systemChanges : Int32) (c7 : Nat → Int32) (c8 : Nat → Int32) (c9 : Nat → Int32) (c10 : Nat → Int32) (c11 : Nat → Int32) (c12 : Nat → Int32) (c13 : Nat → Int32) (c14 : Nat → Int32) (z0 : Int32) (v1_solvedAt : Int32) (c2 : (Nat → Int32)) (v3_most : Int32) (v3_height : Int32) (c4 : (Nat → Int32)) (c5 : (Nat → Int32)) : Option (Int32 × Int32 × (Nat → Int32) × Int32 × Int32 × (Nat → Int32) × (Nat → Int32)) :=
  some (z0, (v1_solvedAt, c2, v3_most, v3_height, c4, c5))
noncomputable def fX10_far_dt (a0 : Int32) (v6_rules : Int32) (v6_ends : Int32) (v6_height : Int32) (v6_systemChanges : Int32) (c7 : Nat → Int32) (c8 : Nat → Int32) (c9 : Nat → Int32) (c10 : Nat → Int32) (c11 : Nat → Int32) (c12 : Nat → Int32) (c13 : Nat → Int32) (c14 : Nat → Int32) : Option (Nat × Int32 × Int32 × (Nat → Int32) × Int32 × Int32 × (Nat → Int32) × (Nat → Int32)) :=
  ob (fX10_isState a0) fun o1 =>
  if o1.1 = 0 then
    tg 0 <|
    some ((-2), (0, (fun _ => 0), 0, 0, (fun _ => 0), (fun _ => 0)))
  else
    tg 1 <|
    ob (fX10_stepsFrom_dt a0 v6_rules v6_ends v6_height v6_systemChanges c7 c8 c9 c10 c11 c12 c13 c14) fun o4 =>
    if o4.1 = 0 then
      if 536870912 ≤ o4.2.1 then
        fX10_far_dt_p100027 v6_rules v6_ends v6_height v6_systemChanges c7 c8 c9 c10 c11 c12 c13 c14 (-1) o4.2.2.1 o4.2.2.2.1 o4.2.2.2.2.1 o4.2.2.2.2.2.1 o4.2.2.2.2.2.2.1 o4.2.2.2.2.2.2.2
      else
        fX10_far_dt_p100027 v6_rules v6_ends v6_height v6_systemChanges c7 c8 c9 c10 c11 c12 c13 c14 o4.2.1 o4.2.2.1 o4.2.2.2.1 o4.2.2.2.2.1 o4.2.2.2.2.2.1 o4.2.2.2.2.2.2.1 o4.2.2.2.2.2.2.2
    else none
noncomputable def fX10_far_x_p27 (v2_rules : Int32) (v2_ends : Int32) (v2_height : Int32) (v2_systemChanges : Int32) (c3 : Nat → Int32) (c5 : Nat → Int32) (c6 : Nat → Int32) (c7 : Nat → Int32) (c8 : Nat → Int32) (c9 : Nat → Int32) (c10 : Nat → Int32) (v11_most : Int32) (c13 : Nat → Int32) (z0 : Int32) (v1_solvedAt : Int32) (c4 : (Nat → Int32)) (v11_height : Int32) (c12 : (Nat → Int32)) (c14 : (Nat → Int32)) : Option (Int32 × Int32 × (Nat → Int32) × Int32 × (Nat → Int32) × (Nat → Int32)) :=
  some (z0, (v1_solvedAt, c4, v11_height, c12, c14))
noncomputable def fX10_far_x (a0 : Int32) (v1_solvedAt : Int32) (v2_rules : Int32) (v2_ends : Int32) (v2_height : Int32) (v2_systemChanges : Int32) (c3 : Nat → Int32) (c4 : Nat → Int32) (c5 : Nat → Int32) (c6 : Nat → Int32) (c7 : Nat → Int32) (c8 : Nat → Int32) (c9 : Nat → Int32) (c10 : Nat → Int32) (v11_most : Int32) (v11_height : Int32) (c12 : Nat → Int32) (c13 : Nat → Int32) (c14 : Nat → Int32) : Option (Nat × Int32 × Int32 × (Nat → Int32) × Int32 × (Nat → Int32) × (Nat → Int32)) :=
  tg 0 <|
  ob (fX10_isState a0) fun o2 =>
  if o2.1 = 0 then
    some ((-2), (v1_solvedAt, c4, v11_height, c12, c14))
  else
    ob (fX10_stepsFrom_x a0 v1_solvedAt v2_rules v2_ends v2_height v2_systemChanges c3 c4 c5 c6 c7 c8 c9 c10 v11_most v11_height c12 c13 c14) fun o4 =>
    if o4.1 = 0 then
      if 536870912 ≤ o4.2.1 then
        fX10_far_x_p27 v2_rules v2_ends v2_height v2_systemChanges c3 c5 c6 c7 c8 c9 c10 v11_most c13 (-1) o4.2.2.1 o4.2.2.2.1 o4.2.2.2.2.1 o4.2.2.2.2.2.1 o4.2.2.2.2.2.2
      else
        fX10_far_x_p27 v2_rules v2_ends v2_height v2_systemChanges c3 c5 c6 c7 c8 c9 c10 v11_most c13 o4.2.1 o4.2.2.1 o4.2.2.2.1 o4.2.2.2.2.1 o4.2.2.2.2.2.1 o4.2.2.2.2.2.2
    else none
noncomputable def fX10_findWay_w_p26 (v6_rules : Int32) (v6_ends : Int32) (v6_height : Int32) (v6_systemChanges : Int32) (v6_wordChanges : Int32) (c7 : Nat → Int32) (c9 : Nat → Int32) (c10 : Nat → Int32) (c11 : Nat → Int32) (c12 : Nat → Int32) (c13 : Nat → Int32) (c14 : Nat → Int32) (c15 : Nat → Int32)  : Option (Int32 × Int32 × Int32 × Int32 × (Nat → Int32) × Int32 × Int32 × (Nat → Int32) × (Nat → Int32)) :=
  some (0, 0, 0, 0, (fun _ => 0), 0, 0, (fun _ => 0), (fun _ => 0))
noncomputable def fX10_findWay_w (a0 : Int32) (a1 : Int32) (v6_rules : Int32) (v6_ends : Int32) (v6_height : Int32) (v6_systemChanges : Int32) (v6_wordChanges : Int32) (c7 : Nat → Int32) (c9 : Nat → Int32) (c10 : Nat → Int32) (c11 : Nat → Int32) (c12 : Nat → Int32) (c13 : Nat → Int32) (c14 : Nat → Int32) (c15 : Nat → Int32) : Option (Nat × Int32 × Int32 × Int32 × Int32 × (Nat → Int32) × Int32 × Int32 × (Nat → Int32) × (Nat → Int32)) :=
  if a1 < 1 then
    tg 0 <|
    fX10_findWay_w_p26 v6_rules v6_ends v6_height v6_systemChanges v6_wordChanges c7 c9 c10 c11 c12 c13 c14 c15 
  else
    if a1 ≤ 2000 then
      tg 1 <|
      ob (fX9_find a0 a1 32496 2030 0 (-1) (-1) (-1) v6_rules v6_ends v6_height v6_systemChanges v6_wordChanges 2030 0 (fun _ => 0) c7 c9 (fun _ => 0) c10 c11 c12 c13 c14 c15 (fun _ => 0)) fun o6 =>
      some (o6.1, o6.2.1, o6.2.2.1, o6.2.2.2.1, o6.2.2.2.2.2.2.2, 2030, o6.2.2.2.2.1, o6.2.2.2.2.2.2.1, o6.2.2.2.2.2.1)
    else
      tg 0 <|
      fX10_findWay_w_p26 v6_rules v6_ends v6_height v6_systemChanges v6_wordChanges c7 c9 c10 c11 c12 c13 c14 c15 
noncomputable def fX10_findWay_x (a0 : Int32) (a1 : Int32) (v1_length : Int32) (v1_fromState : Int32) (v1_foundAtSystem : Int32) (v1_foundAtWord : Int32) (v2_rules : Int32) (v2_ends : Int32) (v2_height : Int32) (v2_systemChanges : Int32) (v2_wordChanges : Int32) (v3_most : Int32) (v3_height : Int32) (c4 : Nat → Int32) (c5 : Nat → Int32) (c7 : Nat → Int32) (c8 : Nat → Int32) (c9 : Nat → Int32) (c10 : Nat → Int32) (c11 : Nat → Int32) (c12 : Nat → Int32) (c13 : Nat → Int32) (c14 : Nat → Int32) (c15 : Nat → Int32) : Option (Nat × Int32 × Int32 × Int32 × Int32 × Int32 × (Nat → Int32) × (Nat → Int32) × (Nat → Int32)) :=
  tg 0 <|
  ob (fX9_find a0 a1 32496 2030 v1_length v1_fromState v1_foundAtSystem v1_foundAtWord v2_rules v2_ends v2_height v2_systemChanges v2_wordChanges v3_most v3_height c4 c5 c7 c8 c9 c10 c11 c12 c13 c14 c15) fun o2 =>
  some (o2.1, o2.2.1, o2.2.2.1, o2.2.2.2.1, o2.2.2.2.2.1, o2.2.2.2.2.2.1, o2.2.2.2.2.2.2.1, o2.2.2.2.2.2.2.2)
noncomputable def fX10_way_dtw (a0 : Int32) (a1 : Int32) (v6_rules : Int32) (v6_ends : Int32) (v6_height : Int32) (v6_systemChanges : Int32) (v6_wordChanges : Int32) (c7 : Nat → Int32) (c8 : Nat → Int32) (c9 : Nat → Int32) (c10 : Nat → Int32) (c11 : Nat → Int32) (c12 : Nat → Int32) (c13 : Nat → Int32) (c14 : Nat → Int32) : Option (Nat × Int32 × Int32 × (Nat → Int32) × Int32 × Int32 × (Nat → Int32) × (Nat → Int32) × Int32 × Int32 × Int32 × Int32 × (Nat → Int32) × Int32 × Int32 × (Nat → Int32) × (Nat → Int32)) :=
  ob (fX10_isState a0) fun o1 =>
  if o1.1 = 0 then
    tg 0 <|
    some ((-2), (0, (fun _ => 0), 0, 0, (fun _ => 0), (fun _ => 0), 0, 0, 0, 0, (fun _ => 0), 0, 0, (fun _ => 0), (fun _ => 0)))
  else
    tgn [1, 2] <|
    ob (fX10_stepsFrom_dt a0 v6_rules v6_ends v6_height v6_systemChanges c7 c8 c9 c10 c11 c12 c13 c14) fun o4 =>
    if o4.1 = 0 then
      ob (fX10_findWay_w a0 o4.2.1 v6_rules v6_ends v6_height v6_systemChanges v6_wordChanges c14 o4.2.2.2.1 c8 c9 c11 c10 c12 c13) fun o5 =>
      if o5.1 = 0 then
        tg 2 <|
        some ((-1), (o4.2.2.1, o4.2.2.2.1, o4.2.2.2.2.1, o4.2.2.2.2.2.1, o4.2.2.2.2.2.2.1, o4.2.2.2.2.2.2.2, 0, 0, 0, 0, (fun _ => 0), 0, 0, (fun _ => 0), (fun _ => 0)))
      else if o5.1 = 1 then
        tg 1 <|
        ob (fX9_ruleAt a1 o5.2.1 o5.2.2.2.2.2.1) fun o9 =>
        some (o9.1, (o4.2.2.1, o4.2.2.2.1, o4.2.2.2.2.1, o4.2.2.2.2.2.1, o4.2.2.2.2.2.2.1, o4.2.2.2.2.2.2.2, o5.2.1, o5.2.2.1, o5.2.2.2.1, o5.2.2.2.2.1, o5.2.2.2.2.2.1, o5.2.2.2.2.2.2.1, o5.2.2.2.2.2.2.2.1, o5.2.2.2.2.2.2.2.2.1, o5.2.2.2.2.2.2.2.2.2))
      else none
    else none
noncomputable def fX10_way_w (a0 : Int32) (a1 : Int32) (v1_solvedAt : Int32) (v2_rules : Int32) (v2_ends : Int32) (v2_height : Int32) (v2_systemChanges : Int32) (v2_wordChanges : Int32) (c3 : Nat → Int32) (c4 : Nat → Int32) (c5 : Nat → Int32) (c6 : Nat → Int32) (c7 : Nat → Int32) (c8 : Nat → Int32) (c9 : Nat → Int32) (c10 : Nat → Int32) (v11_most : Int32) (v11_height : Int32) (c12 : Nat → Int32) (c13 : Nat → Int32) (c14 : Nat → Int32) : Option (Nat × Int32 × Int32 × (Nat → Int32) × Int32 × (Nat → Int32) × (Nat → Int32) × Int32 × Int32 × Int32 × Int32 × (Nat → Int32) × Int32 × Int32 × (Nat → Int32) × (Nat → Int32)) :=
  ob (fX10_isState a0) fun o1 =>
  if o1.1 = 0 then
    tg 0 <|
    some ((-2), (v1_solvedAt, c4, v11_height, c12, c14, 0, 0, 0, 0, (fun _ => 0), 0, 0, (fun _ => 0), (fun _ => 0)))
  else
    ob (fX10_stepsFrom_x a0 v1_solvedAt v2_rules v2_ends v2_height v2_systemChanges c3 c4 c5 c6 c7 c8 c9 c10 v11_most v11_height c12 c13 c14) fun o3 =>
    if o3.1 = 0 then
      ob (fX10_findWay_w a0 o3.2.1 v2_rules v2_ends v2_height v2_systemChanges v2_wordChanges c13 o3.2.2.2.1 c5 c6 c8 c7 c9 c10) fun o4 =>
      if o4.1 = 0 then
        tg 0 <|
        some ((-1), (o3.2.2.1, o3.2.2.2.1, o3.2.2.2.2.1, o3.2.2.2.2.2.1, o3.2.2.2.2.2.2, 0, 0, 0, 0, (fun _ => 0), 0, 0, (fun _ => 0), (fun _ => 0)))
      else if o4.1 = 1 then
        tg 1 <|
        ob (fX9_ruleAt a1 o4.2.1 o4.2.2.2.2.2.1) fun o7 =>
        some (o7.1, (o3.2.2.1, o3.2.2.2.1, o3.2.2.2.2.1, o3.2.2.2.2.2.1, o3.2.2.2.2.2.2, o4.2.1, o4.2.2.1, o4.2.2.2.1, o4.2.2.2.2.1, o4.2.2.2.2.2.1, o4.2.2.2.2.2.2.1, o4.2.2.2.2.2.2.2.1, o4.2.2.2.2.2.2.2.2.1, o4.2.2.2.2.2.2.2.2.2))
      else none
    else none
noncomputable def fX10_way_x_p38 (v2_rules : Int32) (v2_ends : Int32) (v2_height : Int32) (v2_systemChanges : Int32) (v2_wordChanges : Int32) (c4 : Nat → Int32) (c6 : Nat → Int32) (c7 : Nat → Int32) (c8 : Nat → Int32) (c9 : Nat → Int32) (c10 : Nat → Int32) (c11 : Nat → Int32) (v12_most : Int32) (c14 : Nat → Int32) (v16_most : Int32) (y2 : Int32) (v1_length : Int32) (v1_fromState : Int32) (v1_foundAtSystem : Int32) (v1_foundAtWord : Int32) (v3_solvedAt : Int32) (c5 : (Nat → Int32)) (v12_height : Int32) (c13 : (Nat → Int32)) (c15 : (Nat → Int32)) (v16_height : Int32) (c17 : (Nat → Int32)) (c18 : (Nat → Int32)) (c19 : (Nat → Int32)) : Option (Int32 × Int32 × Int32 × Int32 × Int32 × Int32 × (Nat → Int32) × Int32 × (Nat → Int32) × (Nat → Int32) × Int32 × (Nat → Int32) × (Nat → Int32) × (Nat → Int32)) :=
  ob (fX9_ruleAt y2 v1_length c19) fun o1 =>
  some (o1.1, (v1_length, v1_fromState, v1_foundAtSystem, v1_foundAtWord, v3_solvedAt, c5, v12_height, c13, c15, v16_height, c17, c18, c19))
noncomputable def fX10_way_x (a0 : Int32) (a1 : Int32) (v1_length : Int32) (v1_fromState : Int32) (v1_foundAtSystem : Int32) (v1_foundAtWord : Int32) (v2_rules : Int32) (v2_ends : Int32) (v2_height : Int32) (v2_systemChanges : Int32) (v2_wordChanges : Int32) (v3_solvedAt : Int32) (c4 : Nat → Int32) (c5 : Nat → Int32) (c6 : Nat → Int32) (c7 : Nat → Int32) (c8 : Nat → Int32) (c9 : Nat → Int32) (c10 : Nat → Int32) (c11 : Nat → Int32) (v12_most : Int32) (v12_height : Int32) (c13 : Nat → Int32) (c14 : Nat → Int32) (c15 : Nat → Int32) (v16_most : Int32) (v16_height : Int32) (c17 : Nat → Int32) (c18 : Nat → Int32) (c19 : Nat → Int32) : Option (Nat × Int32 × Int32 × Int32 × Int32 × Int32 × Int32 × (Nat → Int32) × Int32 × (Nat → Int32) × (Nat → Int32) × Int32 × (Nat → Int32) × (Nat → Int32) × (Nat → Int32)) :=
  tg 0 <|
  ob (fX10_isState a0) fun o3 =>
  if o3.1 = 0 then
    some ((-2), (v1_length, v1_fromState, v1_foundAtSystem, v1_foundAtWord, v3_solvedAt, c5, v12_height, c13, c15, v16_height, c17, c18, c19))
  else
    ob (fX9_isOf a0 v1_fromState v1_foundAtSystem v1_foundAtWord v2_systemChanges v2_wordChanges) fun o5 =>
    if o5.1 = 0 then
      ob (fX10_stepsFrom_x a0 v3_solvedAt v2_rules v2_ends v2_height v2_systemChanges c4 c5 c6 c7 c8 c9 c10 c11 v12_most v12_height c13 c14 c15) fun o7 =>
      if o7.1 = 0 then
        ob (fX10_findWay_x a0 o7.2.1 v1_length v1_fromState v1_foundAtSystem v1_foundAtWord v2_rules v2_ends v2_height v2_systemChanges v2_wordChanges v16_most v16_height c17 c14 o7.2.2.2.1 c18 c6 c7 c9 c8 c10 c11 c19) fun o8 =>
        if o8.1 = 0 then
          fX10_way_x_p38 v2_rules v2_ends v2_height v2_systemChanges v2_wordChanges c4 c6 c7 c8 c9 c10 c11 v12_most c14 v16_most a1 o8.2.1 o8.2.2.1 o8.2.2.2.1 o8.2.2.2.2.1 o7.2.2.1 o7.2.2.2.1 o7.2.2.2.2.1 o7.2.2.2.2.2.1 o7.2.2.2.2.2.2 o8.2.2.2.2.2.1 o8.2.2.2.2.2.2.1 o8.2.2.2.2.2.2.2.1 o8.2.2.2.2.2.2.2.2
        else none
      else none
    else
      fX10_way_x_p38 v2_rules v2_ends v2_height v2_systemChanges v2_wordChanges c4 c6 c7 c8 c9 c10 c11 v12_most c14 v16_most a1 v1_length v1_fromState v1_foundAtSystem v1_foundAtWord v3_solvedAt c5 v12_height c13 c15 v16_height c17 c18 c19
noncomputable def fX10_after_s_p100048 (v4_rules : Int32) (v4_ends : Int32) (v4_height : Int32) (v4_systemChanges : Int32) (c5 : Nat → Int32) (c6 : Nat → Int32) (c7 : Nat → Int32) (c8 : Nat → Int32) (c9 : Nat → Int32) (c10 : Nat → Int32) (c11 : Nat → Int32) (c12 : Nat → Int32) (z0 : Int32) (v1_solvedAt : Int32) (c2 : (Nat → Int64)) (c3 : (Nat → Int64)) : Option (Int32 × Int32 × (Nat → Int64) × (Nat → Int64)) :=
  some (z0, (v1_solvedAt, c2, c3))
noncomputable def fX10_after_s (a0 : Int32) (v4_rules : Int32) (v4_ends : Int32) (v4_height : Int32) (v4_systemChanges : Int32) (c5 : Nat → Int32) (c6 : Nat → Int32) (c7 : Nat → Int32) (c8 : Nat → Int32) (c9 : Nat → Int32) (c10 : Nat → Int32) (c11 : Nat → Int32) (c12 : Nat → Int32) : Option (Nat × Int32 × Int32 × (Nat → Int64) × (Nat → Int64)) :=
  ob (fX10_isState a0) fun o1 =>
  if o1.1 = 0 then
    tg 0 <|
    some ((-2), (0, (fun _ => 0), (fun _ => 0)))
  else
    tg 1 <|
    ob (fX5_holdsWord a0 (-1) v4_rules v4_ends v4_height v4_systemChanges (fun _ => 0) (fun _ => 0) c5 c6 c7 c8 c9 c10 c11 c12) fun o5 =>
    if o5.1 = 0 then
      fX10_after_s_p100048 v4_rules v4_ends v4_height v4_systemChanges c5 c6 c7 c8 c9 c10 c11 c12 0 o5.2.1 o5.2.2.1 o5.2.2.2
    else
      fX10_after_s_p100048 v4_rules v4_ends v4_height v4_systemChanges c5 c6 c7 c8 c9 c10 c11 c12 1 o5.2.1 o5.2.2.1 o5.2.2.2
noncomputable def fX10_after_x_p48 (v2_rules : Int32) (v2_ends : Int32) (v2_height : Int32) (v2_systemChanges : Int32) (c5 : Nat → Int32) (c6 : Nat → Int32) (c7 : Nat → Int32) (c8 : Nat → Int32) (c9 : Nat → Int32) (c10 : Nat → Int32) (c11 : Nat → Int32) (c12 : Nat → Int32) (z0 : Int32) (v1_solvedAt : Int32) (c3 : (Nat → Int64)) (c4 : (Nat → Int64)) : Option (Int32 × Int32 × (Nat → Int64) × (Nat → Int64)) :=
  some (z0, (v1_solvedAt, c3, c4))
noncomputable def fX10_after_x (a0 : Int32) (v1_solvedAt : Int32) (v2_rules : Int32) (v2_ends : Int32) (v2_height : Int32) (v2_systemChanges : Int32) (c3 : Nat → Int64) (c4 : Nat → Int64) (c5 : Nat → Int32) (c6 : Nat → Int32) (c7 : Nat → Int32) (c8 : Nat → Int32) (c9 : Nat → Int32) (c10 : Nat → Int32) (c11 : Nat → Int32) (c12 : Nat → Int32) : Option (Nat × Int32 × Int32 × (Nat → Int64) × (Nat → Int64)) :=
  tg 0 <|
  ob (fX10_isState a0) fun o2 =>
  if o2.1 = 0 then
    some ((-2), (v1_solvedAt, c3, c4))
  else
    ob (fX5_holdsWord a0 v1_solvedAt v2_rules v2_ends v2_height v2_systemChanges c3 c4 c5 c6 c7 c8 c9 c10 c11 c12) fun o4 =>
    if o4.1 = 0 then
      fX10_after_x_p48 v2_rules v2_ends v2_height v2_systemChanges c5 c6 c7 c8 c9 c10 c11 c12 0 o4.2.1 o4.2.2.1 o4.2.2.2
    else
      fX10_after_x_p48 v2_rules v2_ends v2_height v2_systemChanges c5 c6 c7 c8 c9 c10 c11 c12 1 o4.2.1 o4.2.2.1 o4.2.2.2
noncomputable def fX10_findFailure_cf_p100069 (v7_procedures : Int32) (v7_statements : Int32) (c8 : Nat → Int32) (c9 : Nat → Int32) (c10 : Nat → Int32) (c11 : Nat → Int32) (c12 : Nat → Int32) (c13 : Nat → Int32) (c14 : Nat → Int64) (c15 : Nat → Int32) (z0 : Int32) (v1_looks : Int32) (c2 : (Nat → Int32)) (c3 : (Nat → Int32)) (c4 : (Nat → Int32)) (c5 : (Nat → Int32)) (c6 : (Nat → Int32)) : Option (Int32 × Int32 × (Nat → Int32) × (Nat → Int32) × (Nat → Int32) × (Nat → Int32) × (Nat → Int32) × Int32 × Int32 × Int32 × Int32 × (Nat → Int32) × (Nat → Int32) × (Nat → Int32) × (Nat → Int32) × (Nat → Int32) × (Nat → Int32) × (Nat → Int32)) :=
  some (z0, (v1_looks, c2, c3, c4, c5, c6, 0, 0, 0, 0, (fun _ => 0), (fun _ => 0), (fun _ => 0), (fun _ => 0), (fun _ => 0), (fun _ => 0), (fun _ => 0)))
noncomputable def fX10_findFailure_cf (v7_procedures : Int32) (v7_statements : Int32) (c8 : Nat → Int32) (c9 : Nat → Int32) (c10 : Nat → Int32) (c11 : Nat → Int32) (c12 : Nat → Int32) (c13 : Nat → Int32) (c14 : Nat → Int64) (c15 : Nat → Int32) : Option (Nat × Int32 × Int32 × (Nat → Int32) × (Nat → Int32) × (Nat → Int32) × (Nat → Int32) × (Nat → Int32) × Int32 × Int32 × Int32 × Int32 × (Nat → Int32) × (Nat → Int32) × (Nat → Int32) × (Nat → Int32) × (Nat → Int32) × (Nat → Int32) × (Nat → Int32)) :=
  ob (fX0_solve 0 (fun _ => 0) (fun _ => 0) v7_procedures v7_statements c8 c9 c10 c11 c12 c13 c14 c15 (fun _ => 0) (fun _ => 0) (fun _ => 0)) fun o2 =>
  ob (fX0_stepsToFail v7_procedures c8 o2.2.2.2.1) fun o3 =>
  if o3.1 ≤ 2000 then
    tg 1 <|
    ob (fX8_record o3.1 0 0 0 0 v7_procedures c8 (fun _ => 0) (fun _ => 0) (fun _ => 0) (fun _ => 0) (fun _ => 0) c9 c11 c12 o2.2.2.2.1 (fun _ => 0) (fun _ => 0) c10 c14 c15) fun o7 =>
    some (o3.1, (o2.1, o2.2.2.2.1, o2.2.1, o2.2.2.1, o2.2.2.2.2.1, o2.2.2.2.2.2, o7.1, o7.2.1, o7.2.2.1, o7.2.2.2.1, o7.2.2.2.2.2.1, o7.2.2.2.2.2.2.1, o7.2.2.2.2.2.2.2.1, o7.2.2.2.2.2.2.2.2.1, o7.2.2.2.2.2.2.2.2.2.1, o7.2.2.2.2.2.2.2.2.2.2, o7.2.2.2.2.1))
  else
    tg 0 <|
    if 536870912 ≤ o3.1 then
      fX10_findFailure_cf_p100069 v7_procedures v7_statements c8 c9 c10 c11 c12 c13 c14 c15 (-1) o2.1 o2.2.2.2.1 o2.2.1 o2.2.2.1 o2.2.2.2.2.1 o2.2.2.2.2.2
    else
      fX10_findFailure_cf_p100069 v7_procedures v7_statements c8 c9 c10 c11 c12 c13 c14 c15 o3.1 o2.1 o2.2.2.2.1 o2.2.1 o2.2.2.1 o2.2.2.2.2.1 o2.2.2.2.2.2
noncomputable def fX10_findFailure_f_p69 (v4_procedures : Int32) (v4_statements : Int32) (c5 : Nat → Int32) (c6 : Nat → Int32) (c7 : Nat → Int32) (c8 : Nat → Int32) (c9 : Nat → Int32) (c10 : Nat → Int32) (c11 : Nat → Int64) (c12 : Nat → Int32) (z0 : Int32) (v1_looks : Int32) (c2 : (Nat → Int32)) (c3 : (Nat → Int32)) (c13 : (Nat → Int32)) (c14 : (Nat → Int32)) (c15 : (Nat → Int32)) : Option (Int32 × Int32 × (Nat → Int32) × (Nat → Int32) × (Nat → Int32) × (Nat → Int32) × (Nat → Int32) × Int32 × Int32 × Int32 × Int32 × (Nat → Int32) × (Nat → Int32) × (Nat → Int32) × (Nat → Int32) × (Nat → Int32) × (Nat → Int32) × (Nat → Int32)) :=
  some (z0, (v1_looks, c2, c3, c13, c14, c15, 0, 0, 0, 0, (fun _ => 0), (fun _ => 0), (fun _ => 0), (fun _ => 0), (fun _ => 0), (fun _ => 0), (fun _ => 0)))
noncomputable def fX10_findFailure_f (v1_looks : Int32) (c2 : Nat → Int32) (c3 : Nat → Int32) (v4_procedures : Int32) (v4_statements : Int32) (c5 : Nat → Int32) (c6 : Nat → Int32) (c7 : Nat → Int32) (c8 : Nat → Int32) (c9 : Nat → Int32) (c10 : Nat → Int32) (c11 : Nat → Int64) (c12 : Nat → Int32) (c13 : Nat → Int32) (c14 : Nat → Int32) (c15 : Nat → Int32) : Option (Nat × Int32 × Int32 × (Nat → Int32) × (Nat → Int32) × (Nat → Int32) × (Nat → Int32) × (Nat → Int32) × Int32 × Int32 × Int32 × Int32 × (Nat → Int32) × (Nat → Int32) × (Nat → Int32) × (Nat → Int32) × (Nat → Int32) × (Nat → Int32) × (Nat → Int32)) :=
  ob (fX0_solve v1_looks c2 c3 v4_procedures v4_statements c5 c6 c7 c8 c9 c10 c11 c12 c13 c14 c15) fun o1 =>
  ob (fX0_stepsToFail v4_procedures c5 o1.2.2.2.1) fun o2 =>
  if o2.1 ≤ 2000 then
    tg 1 <|
    ob (fX8_record o2.1 0 0 0 0 v4_procedures c5 (fun _ => 0) (fun _ => 0) (fun _ => 0) (fun _ => 0) (fun _ => 0) c6 c8 c9 o1.2.2.2.1 (fun _ => 0) (fun _ => 0) c7 c11 c12) fun o6 =>
    some (o2.1, (o1.1, o1.2.1, o1.2.2.1, o1.2.2.2.1, o1.2.2.2.2.1, o1.2.2.2.2.2, o6.1, o6.2.1, o6.2.2.1, o6.2.2.2.1, o6.2.2.2.2.2.1, o6.2.2.2.2.2.2.1, o6.2.2.2.2.2.2.2.1, o6.2.2.2.2.2.2.2.2.1, o6.2.2.2.2.2.2.2.2.2.1, o6.2.2.2.2.2.2.2.2.2.2, o6.2.2.2.2.1))
  else
    tg 0 <|
    if 536870912 ≤ o2.1 then
      fX10_findFailure_f_p69 v4_procedures v4_statements c5 c6 c7 c8 c9 c10 c11 c12 (-1) o1.1 o1.2.1 o1.2.2.1 o1.2.2.2.1 o1.2.2.2.2.1 o1.2.2.2.2.2
    else
      fX10_findFailure_f_p69 v4_procedures v4_statements c5 c6 c7 c8 c9 c10 c11 c12 o2.1 o1.1 o1.2.1 o1.2.2.1 o1.2.2.2.1 o1.2.2.2.2.1 o1.2.2.2.2.2
noncomputable def fX10_findFailure_x_p69 (v4_procedures : Int32) (v4_statements : Int32) (c5 : Nat → Int32) (c6 : Nat → Int32) (c7 : Nat → Int32) (c8 : Nat → Int32) (c9 : Nat → Int32) (c10 : Nat → Int32) (c11 : Nat → Int64) (c12 : Nat → Int32) (z0 : Int32) (v1_looks : Int32) (c2 : (Nat → Int32)) (c3 : (Nat → Int32)) (c13 : (Nat → Int32)) (c14 : (Nat → Int32)) (c15 : (Nat → Int32)) (v16_length : Int32) (v16_open : Int32) (v16_point : Int32) (v16_setting : Int32) (c17 : (Nat → Int32)) (c18 : (Nat → Int32)) (c19 : (Nat → Int32)) (c20 : (Nat → Int32)) (c21 : (Nat → Int32)) (c22 : (Nat → Int32)) (c23 : (Nat → Int32)) : Option (Int32 × Int32 × (Nat → Int32) × (Nat → Int32) × (Nat → Int32) × (Nat → Int32) × (Nat → Int32) × Int32 × Int32 × Int32 × Int32 × (Nat → Int32) × (Nat → Int32) × (Nat → Int32) × (Nat → Int32) × (Nat → Int32) × (Nat → Int32) × (Nat → Int32)) :=
  some (z0, (v1_looks, c2, c3, c13, c14, c15, v16_length, v16_open, v16_point, v16_setting, c17, c18, c19, c20, c21, c22, c23))
noncomputable def fX10_findFailure_x (v1_looks : Int32) (c2 : Nat → Int32) (c3 : Nat → Int32) (v4_procedures : Int32) (v4_statements : Int32) (c5 : Nat → Int32) (c6 : Nat → Int32) (c7 : Nat → Int32) (c8 : Nat → Int32) (c9 : Nat → Int32) (c10 : Nat → Int32) (c11 : Nat → Int64) (c12 : Nat → Int32) (c13 : Nat → Int32) (c14 : Nat → Int32) (c15 : Nat → Int32) (v16_length : Int32) (v16_open : Int32) (v16_point : Int32) (v16_setting : Int32) (c17 : Nat → Int32) (c18 : Nat → Int32) (c19 : Nat → Int32) (c20 : Nat → Int32) (c21 : Nat → Int32) (c22 : Nat → Int32) (c23 : Nat → Int32) : Option (Nat × Int32 × Int32 × (Nat → Int32) × (Nat → Int32) × (Nat → Int32) × (Nat → Int32) × (Nat → Int32) × Int32 × Int32 × Int32 × Int32 × (Nat → Int32) × (Nat → Int32) × (Nat → Int32) × (Nat → Int32) × (Nat → Int32) × (Nat → Int32) × (Nat → Int32)) :=
  tg 0 <|
  ob (fX0_solve v1_looks c2 c3 v4_procedures v4_statements c5 c6 c7 c8 c9 c10 c11 c12 c13 c14 c15) fun o2 =>
  ob (fX0_stepsToFail v4_procedures c5 o2.2.2.2.1) fun o3 =>
  ob (fX8_forget v16_length) fun o4 =>
  if o3.1 ≤ 2000 then
    ob (fX8_record o3.1 o4 v16_open v16_point v16_setting v4_procedures c5 c17 c18 c19 c20 c21 c6 c8 c9 o2.2.2.2.1 c22 c23 c7 c11 c12) fun o6 =>
    some (o3.1, (o2.1, o2.2.1, o2.2.2.1, o2.2.2.2.1, o2.2.2.2.2.1, o2.2.2.2.2.2, o6.1, o6.2.1, o6.2.2.1, o6.2.2.2.1, o6.2.2.2.2.1, o6.2.2.2.2.2.1, o6.2.2.2.2.2.2.1, o6.2.2.2.2.2.2.2.1, o6.2.2.2.2.2.2.2.2.1, o6.2.2.2.2.2.2.2.2.2.1, o6.2.2.2.2.2.2.2.2.2.2))
  else
    if 536870912 ≤ o3.1 then
      fX10_findFailure_x_p69 v4_procedures v4_statements c5 c6 c7 c8 c9 c10 c11 c12 (-1) o2.1 o2.2.1 o2.2.2.1 o2.2.2.2.1 o2.2.2.2.2.1 o2.2.2.2.2.2 o4 v16_open v16_point v16_setting c17 c18 c19 c20 c21 c22 c23
    else
      fX10_findFailure_x_p69 v4_procedures v4_statements c5 c6 c7 c8 c9 c10 c11 c12 o3.1 o2.1 o2.2.1 o2.2.2.1 o2.2.2.2.1 o2.2.2.2.2.1 o2.2.2.2.2.2 o4 v16_open v16_point v16_setting c17 c18 c19 c20 c21 c22 c23
noncomputable def fX10_check_cf (v0_isChecked : Int32) (v0_checkAnswer : Int32) (v1_isThere : Int32) (v1_procedures : Int32) (v1_statements : Int32) (c8 : Nat → Int32) (c9 : Nat → Int32) (c10 : Nat → Int32) (c11 : Nat → Int32) (c12 : Nat → Int32) (c13 : Nat → Int32) (c14 : Nat → Int64) (c15 : Nat → Int32) : Option (Nat × Int32 × Int32 × Int32 × Int32 × (Nat → Int32) × (Nat → Int32) × (Nat → Int32) × (Nat → Int32) × (Nat → Int32) × Int32 × Int32 × Int32 × Int32 × (Nat → Int32) × (Nat → Int32) × (Nat → Int32) × (Nat → Int32) × (Nat → Int32) × (Nat → Int32) × (Nat → Int32)) :=
  if v1_isThere = 0 then
    tg 0 <|
    some ((-2), (v0_isChecked, v0_checkAnswer, 0, (fun _ => 0), (fun _ => 0), (fun _ => 0), (fun _ => 0), (fun _ => 0), 0, 0, 0, 0, (fun _ => 0), (fun _ => 0), (fun _ => 0), (fun _ => 0), (fun _ => 0), (fun _ => 0), (fun _ => 0)))
  else
    if v0_isChecked = 0 then
      tgn [1, 2] <|
      ob (fX10_findFailure_cf v1_procedures v1_statements c8 c9 c10 c11 c12 c13 c14 c15) fun o5 =>
      if o5.1 = 0 then
        tg 2 <|
        some (o5.2.1, (1, o5.2.1, o5.2.2.1, o5.2.2.2.1, o5.2.2.2.2.1, o5.2.2.2.2.2.1, o5.2.2.2.2.2.2.1, o5.2.2.2.2.2.2.2.1, 0, 0, 0, 0, (fun _ => 0), (fun _ => 0), (fun _ => 0), (fun _ => 0), (fun _ => 0), (fun _ => 0), (fun _ => 0)))
      else if o5.1 = 1 then
        tg 1 <|
        some (o5.2.1, (1, o5.2.1, o5.2.2.1, o5.2.2.2.1, o5.2.2.2.2.1, o5.2.2.2.2.2.1, o5.2.2.2.2.2.2.1, o5.2.2.2.2.2.2.2.1, o5.2.2.2.2.2.2.2.2.1, o5.2.2.2.2.2.2.2.2.2.1, o5.2.2.2.2.2.2.2.2.2.2.1, o5.2.2.2.2.2.2.2.2.2.2.2.1, o5.2.2.2.2.2.2.2.2.2.2.2.2.1, o5.2.2.2.2.2.2.2.2.2.2.2.2.2.1, o5.2.2.2.2.2.2.2.2.2.2.2.2.2.2.1, o5.2.2.2.2.2.2.2.2.2.2.2.2.2.2.2.1, o5.2.2.2.2.2.2.2.2.2.2.2.2.2.2.2.2.1, o5.2.2.2.2.2.2.2.2.2.2.2.2.2.2.2.2.2.1, o5.2.2.2.2.2.2.2.2.2.2.2.2.2.2.2.2.2.2))
      else none
    else
      tg 0 <|
      some (v0_checkAnswer, (v0_isChecked, v0_checkAnswer, 0, (fun _ => 0), (fun _ => 0), (fun _ => 0), (fun _ => 0), (fun _ => 0), 0, 0, 0, 0, (fun _ => 0), (fun _ => 0), (fun _ => 0), (fun _ => 0), (fun _ => 0), (fun _ => 0), (fun _ => 0)))
noncomputable def fX10_check_f_p33 (v1_isThere : Int32) (v1_procedures : Int32) (v1_statements : Int32) (c5 : Nat → Int32) (c6 : Nat → Int32) (c7 : Nat → Int32) (c8 : Nat → Int32) (c9 : Nat → Int32) (c10 : Nat → Int32) (c11 : Nat → Int64) (c12 : Nat → Int32) (v0_isChecked : Int32) (v0_checkAnswer : Int32) (v2_looks : Int32) (c3 : (Nat → Int32)) (c4 : (Nat → Int32)) (c13 : (Nat → Int32)) (c14 : (Nat → Int32)) (c15 : (Nat → Int32)) : Option (Int32 × Int32 × Int32 × Int32 × (Nat → Int32) × (Nat → Int32) × (Nat → Int32) × (Nat → Int32) × (Nat → Int32) × Int32 × Int32 × Int32 × Int32 × (Nat → Int32) × (Nat → Int32) × (Nat → Int32) × (Nat → Int32) × (Nat → Int32) × (Nat → Int32) × (Nat → Int32)) :=
  some (v0_checkAnswer, (v0_isChecked, v0_checkAnswer, v2_looks, c3, c4, c13, c14, c15, 0, 0, 0, 0, (fun _ => 0), (fun _ => 0), (fun _ => 0), (fun _ => 0), (fun _ => 0), (fun _ => 0), (fun _ => 0)))
noncomputable def fX10_check_f (v0_isChecked : Int32) (v0_checkAnswer : Int32) (v1_isThere : Int32) (v1_procedures : Int32) (v1_statements : Int32) (v2_looks : Int32) (c3 : Nat → Int32) (c4 : Nat → Int32) (c5 : Nat → Int32) (c6 : Nat → Int32) (c7 : Nat → Int32) (c8 : Nat → Int32) (c9 : Nat → Int32) (c10 : Nat → Int32) (c11 : Nat → Int64) (c12 : Nat → Int32) (c13 : Nat → Int32) (c14 : Nat → Int32) (c15 : Nat → Int32) : Option (Nat × Int32 × Int32 × Int32 × Int32 × (Nat → Int32) × (Nat → Int32) × (Nat → Int32) × (Nat → Int32) × (Nat → Int32) × Int32 × Int32 × Int32 × Int32 × (Nat → Int32) × (Nat → Int32) × (Nat → Int32) × (Nat → Int32) × (Nat → Int32) × (Nat → Int32) × (Nat → Int32)) :=
  if v1_isThere = 0 then
    tg 0 <|
    some ((-2), (v0_isChecked, v0_checkAnswer, v2_looks, c3, c4, c13, c14, c15, 0, 0, 0, 0, (fun _ => 0), (fun _ => 0), (fun _ => 0), (fun _ => 0), (fun _ => 0), (fun _ => 0), (fun _ => 0)))
  else
    if v0_isChecked = 0 then
      ob (fX10_findFailure_f v2_looks c3 c4 v1_procedures v1_statements c5 c6 c7 c8 c9 c10 c11 c12 c13 c14 c15) fun o4 =>
      if o4.1 = 0 then
        tg 0 <|
        fX10_check_f_p33 v1_isThere v1_procedures v1_statements c5 c6 c7 c8 c9 c10 c11 c12 1 o4.2.1 o4.2.2.1 o4.2.2.2.1 o4.2.2.2.2.1 o4.2.2.2.2.2.1 o4.2.2.2.2.2.2.1 o4.2.2.2.2.2.2.2.1
      else if o4.1 = 1 then
        tg 1 <|
        some (o4.2.1, (1, o4.2.1, o4.2.2.1, o4.2.2.2.1, o4.2.2.2.2.1, o4.2.2.2.2.2.1, o4.2.2.2.2.2.2.1, o4.2.2.2.2.2.2.2.1, o4.2.2.2.2.2.2.2.2.1, o4.2.2.2.2.2.2.2.2.2.1, o4.2.2.2.2.2.2.2.2.2.2.1, o4.2.2.2.2.2.2.2.2.2.2.2.1, o4.2.2.2.2.2.2.2.2.2.2.2.2.1, o4.2.2.2.2.2.2.2.2.2.2.2.2.2.1, o4.2.2.2.2.2.2.2.2.2.2.2.2.2.2.1, o4.2.2.2.2.2.2.2.2.2.2.2.2.2.2.2.1, o4.2.2.2.2.2.2.2.2.2.2.2.2.2.2.2.2.1, o4.2.2.2.2.2.2.2.2.2.2.2.2.2.2.2.2.2.1, o4.2.2.2.2.2.2.2.2.2.2.2.2.2.2.2.2.2.2))
      else none
    else
      tg 0 <|
      fX10_check_f_p33 v1_isThere v1_procedures v1_statements c5 c6 c7 c8 c9 c10 c11 c12 v0_isChecked v0_checkAnswer v2_looks c3 c4 c13 c14 c15
noncomputable def fX10_check_x_p33 (v1_isThere : Int32) (v1_procedures : Int32) (v1_statements : Int32) (c5 : Nat → Int32) (c6 : Nat → Int32) (c7 : Nat → Int32) (c8 : Nat → Int32) (c9 : Nat → Int32) (c10 : Nat → Int32) (c11 : Nat → Int64) (c12 : Nat → Int32) (v0_isChecked : Int32) (v0_checkAnswer : Int32) (v2_looks : Int32) (c3 : (Nat → Int32)) (c4 : (Nat → Int32)) (c13 : (Nat → Int32)) (c14 : (Nat → Int32)) (c15 : (Nat → Int32)) (v16_length : Int32) (v16_open : Int32) (v16_point : Int32) (v16_setting : Int32) (c17 : (Nat → Int32)) (c18 : (Nat → Int32)) (c19 : (Nat → Int32)) (c20 : (Nat → Int32)) (c21 : (Nat → Int32)) (c22 : (Nat → Int32)) (c23 : (Nat → Int32)) : Option (Int32 × Int32 × Int32 × Int32 × (Nat → Int32) × (Nat → Int32) × (Nat → Int32) × (Nat → Int32) × (Nat → Int32) × Int32 × Int32 × Int32 × Int32 × (Nat → Int32) × (Nat → Int32) × (Nat → Int32) × (Nat → Int32) × (Nat → Int32) × (Nat → Int32) × (Nat → Int32)) :=
  some (v0_checkAnswer, (v0_isChecked, v0_checkAnswer, v2_looks, c3, c4, c13, c14, c15, v16_length, v16_open, v16_point, v16_setting, c17, c18, c19, c20, c21, c22, c23))
noncomputable def fX10_check_x (v0_isChecked : Int32) (v0_checkAnswer : Int32) (v1_isThere : Int32) (v1_procedures : Int32) (v1_statements : Int32) (v2_looks : Int32) (c3 : Nat → Int32) (c4 : Nat → Int32) (c5 : Nat → Int32) (c6 : Nat → Int32) (c7 : Nat → Int32) (c8 : Nat → Int32) (c9 : Nat → Int32) (c10 : Nat → Int32) (c11 : Nat → Int64) (c12 : Nat → Int32) (c13 : Nat → Int32) (c14 : Nat → Int32) (c15 : Nat → Int32) (v16_length : Int32) (v16_open : Int32) (v16_point : Int32) (v16_setting : Int32) (c17 : Nat → Int32) (c18 : Nat → Int32) (c19 : Nat → Int32) (c20 : Nat → Int32) (c21 : Nat → Int32) (c22 : Nat → Int32) (c23 : Nat → Int32) : Option (Nat × Int32 × Int32 × Int32 × Int32 × (Nat → Int32) × (Nat → Int32) × (Nat → Int32) × (Nat → Int32) × (Nat → Int32) × Int32 × Int32 × Int32 × Int32 × (Nat → Int32) × (Nat → Int32) × (Nat → Int32) × (Nat → Int32) × (Nat → Int32) × (Nat → Int32) × (Nat → Int32)) :=
  tg 0 <|
  if v1_isThere = 0 then
    some ((-2), (v0_isChecked, v0_checkAnswer, v2_looks, c3, c4, c13, c14, c15, v16_length, v16_open, v16_point, v16_setting, c17, c18, c19, c20, c21, c22, c23))
  else
    if v0_isChecked = 0 then
      ob (fX10_findFailure_x v2_looks c3 c4 v1_procedures v1_statements c5 c6 c7 c8 c9 c10 c11 c12 c13 c14 c15 v16_length v16_open v16_point v16_setting c17 c18 c19 c20 c21 c22 c23) fun o4 =>
      if o4.1 = 0 then
        fX10_check_x_p33 v1_isThere v1_procedures v1_statements c5 c6 c7 c8 c9 c10 c11 c12 1 o4.2.1 o4.2.2.1 o4.2.2.2.1 o4.2.2.2.2.1 o4.2.2.2.2.2.1 o4.2.2.2.2.2.2.1 o4.2.2.2.2.2.2.2.1 o4.2.2.2.2.2.2.2.2.1 o4.2.2.2.2.2.2.2.2.2.1 o4.2.2.2.2.2.2.2.2.2.2.1 o4.2.2.2.2.2.2.2.2.2.2.2.1 o4.2.2.2.2.2.2.2.2.2.2.2.2.1 o4.2.2.2.2.2.2.2.2.2.2.2.2.2.1 o4.2.2.2.2.2.2.2.2.2.2.2.2.2.2.1 o4.2.2.2.2.2.2.2.2.2.2.2.2.2.2.2.1 o4.2.2.2.2.2.2.2.2.2.2.2.2.2.2.2.2.1 o4.2.2.2.2.2.2.2.2.2.2.2.2.2.2.2.2.2.1 o4.2.2.2.2.2.2.2.2.2.2.2.2.2.2.2.2.2.2
      else none
    else
      fX10_check_x_p33 v1_isThere v1_procedures v1_statements c5 c6 c7 c8 c9 c10 c11 c12 v0_isChecked v0_checkAnswer v2_looks c3 c4 c13 c14 c15 v16_length v16_open v16_point v16_setting c17 c18 c19 c20 c21 c22 c23
noncomputable def fX10_trace_f_p9   : Option (Int32 × Unit) :=
  some ((-2), ())
noncomputable def fX10_trace_f (a0 : Int32) (a1 : Int32) : Option (Nat × Int32 × Unit) :=
  tg 0 <|
  if a1 < 0 then
    fX10_trace_f_p9 
  else
    if a1 ≤ 4 then
      some ((-1), ())
    else
      fX10_trace_f_p9 
noncomputable def fX10_trace_x_p9 (v1_length : Int32) (c2 : Nat → Int32) (c3 : Nat → Int32) (c4 : Nat → Int32) (c5 : Nat → Int32)  : Option (Int32 × Unit) :=
  some ((-2), ())
noncomputable def fX10_trace_x (a0 : Int32) (a1 : Int32) (v1_length : Int32) (c2 : Nat → Int32) (c3 : Nat → Int32) (c4 : Nat → Int32) (c5 : Nat → Int32) : Option (Nat × Int32 × Unit) :=
  tg 0 <|
  if a1 < 0 then
    fX10_trace_x_p9 v1_length c2 c3 c4 c5 
  else
    if a1 ≤ 4 then
      ob (fX8_aboutStep a0 a1 v1_length c2 c3 c4 c5) fun o4 =>
      some (o4.1, ())
    else
      fX10_trace_x_p9 v1_length c2 c3 c4 c5 
