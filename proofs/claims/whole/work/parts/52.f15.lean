def F_M_isCable_29 (N : Nat)  (t0 : Int32) (S : pm_S) : Option (Int32 × pm_S) :=
    if t0 = 0 ∨ t0 = 1 then some (t0, S) else none
set_option maxHeartbeats 4000000 in
set_option maxRecDepth 20000 in
theorem f_M_isCable_29 (sp : pm_I → List Value → pm_S → pm_O → Prop) (d N : Nat)  (t0 : Int32) (S : pm_S)  (r : (Int32 × pm_S)) (h : F_M_isCable_29 N  t0 S = some r) : pmE pG (pm_rel pG sp (d + 1)) mi_M_isCable 29 [none, none, none] [.int t0] S (some (.int r.1), r.2) := by
  unfold F_M_isCable_29 at h
  by_cases c3 : t0 = 0 ∨ t0 = 1
  · rw [if_pos c3] at h
    cases h
    exact pE_ret rfl (if_pos c3) rfl
  · rw [if_neg c3] at h
    cases h
def F_M_isCable_28 (N : Nat)   (S : pm_S) : Option (Int32 × pm_S) :=
    F_M_isCable_29 N 0 S
set_option maxHeartbeats 4000000 in
set_option maxRecDepth 20000 in
theorem f_M_isCable_28 (sp : pm_I → List Value → pm_S → pm_O → Prop) (d N : Nat)   (S : pm_S)  (r : (Int32 × pm_S)) (h : F_M_isCable_28 N   S = some r) : pmE pG (pm_rel pG sp (d + 1)) mi_M_isCable 28 [none, none, none] [] S (some (.int r.1), r.2) := by
  unfold F_M_isCable_28 at h
  refine pE_jump 1 (pc' := 29) (ls' := [none, none, none]) (st' := [.int 0]) (fun _ => rfl) ?_
  exact f_M_isCable_29 sp d N 0 S _ h
def F_M_isCable (N : Nat) (S : pm_S) (a : Nat) (p0 : Int32) (p1 : Int32) : Option (Int32 × pm_S) :=
    if rcv S a 11 = true then
    ((F_M_isPlan N S a p0).bind fun (v2, S1) =>
    if v2 = 0 then
    F_M_isCable_28 N S1
    else
    ((oR S1 a 11 7).bind fun oq4 => match oq4 with
    | none => none
    | some q4 =>
    (aI [0, 6] S1 q4 p0).bind fun v5 =>
    (F_M_isIn N S1 p1 0 (v5 - 1)).bind fun (v7, S6) =>
    if v7 = 0 then
    F_M_isCable_28 N S6
    else
    F_M_isCable_29 N 1 S6))
    else none
theorem g_M_isCable {N : Nat} {S : pm_S} {a : Nat} {p0 : Int32} {p1 : Int32} {r : (Int32 × pm_S)} (h : F_M_isCable N S a p0 p1 = some r) : rcv S a 11 = true := by
  unfold F_M_isCable at h
  by_cases c : rcv S a 11 = true
  · exact c
  · rw [if_neg c] at h; cases h
set_option maxHeartbeats 4000000 in
set_option maxRecDepth 20000 in
theorem f_M_isCable (sp : pm_I → List Value → pm_S → pm_O → Prop) (d N : Nat) (S : pm_S) (a : Nat) (p0 : Int32) (p1 : Int32) (r : (Int32 × pm_S)) (h : F_M_isCable N S a p0 p1 = some r) : pm_rel pG sp (d + 2) mi_M_isCable [.ref a, .int p0, .int p1] S (some (.int r.1), r.2) := by
  have hg := g_M_isCable h
  unfold F_M_isCable at h
  rw [if_pos hg] at h
  refine pE_rel (d := d + 1) ?_
  show pmE pG _ mi_M_isCable 0 [some (.ref a), some (.int p0), some (.int p1)] [] S _
  refine pE_jump 2 (pc' := 2) (ls' := [some (.ref a), some (.int p0), some (.int p1)]) (st' := [.int p0, .ref a]) (fun _ => rfl) ?_
  obtain ⟨⟨v2, S1⟩, hv2, h⟩ := obind h
  try dsimp only at h
  refine pE_iv (Bs := [.int p0]) (st := []) 1 rfl (Or.inl ⟨rfl, rfl⟩) rfl rfl (Nat.le_of_ble_eq_true rfl) (Nat.le_of_ble_eq_true rfl) (g_M_isPlan hv2) (f_M_isPlan sp d N S a p0 _ hv2) ?_
  refine pE_br (v2 = 0) rfl rfl (fun c9 => ?_) (fun c9 => ?_)
  · rw [if_pos c9] at h
    refine pE_weak [none, none, none] trivial ?_
    exact f_M_isCable_28 sp d N S1 _ h
  · rw [if_neg c9] at h
    refine pE_jump 3 (pc' := 11) (ls' := [some (.ref a), some (.int p0), some (.int p1)]) (st' := [.ref a, .int 0, .int p1]) (fun _ => rfl) ?_
    obtain ⟨oq4, hq4, h⟩ := obind h
    cases oq4 with
    | none => cases h
    | some q4 =>
      try dsimp only at h
      refine pE_gfS rfl rfl hq4 ?_
      refine pE_jump 1 (pc' := 15) (ls' := [some (.ref a), some (.int p0), some (.int p1)]) (st' := [.int p0, .ref q4, .int 0, .int p1]) (fun _ => rfl) ?_
      obtain ⟨v5, hv5, h⟩ := obind h
      refine pE_aI rfl rfl hv5 ?_
      refine pE_jump 2 (pc' := 18) (ls' := [some (.ref a), some (.int p0), some (.int p1)]) (st' := [.int (v5 - 1), .int 0, .int p1]) (fun _ => rfl) ?_
      obtain ⟨⟨v7, S6⟩, hv7, h⟩ := obind h
      try dsimp only at h
      refine pE_is (Bs := [.int p1, .int 0, .int (v5 - 1)]) (st := []) rfl rfl rfl (Nat.le_of_ble_eq_true rfl) (Nat.le_of_ble_eq_true rfl) (f_M_isIn sp d N S1 p1 0 (v5 - 1) _ hv7) ?_
      refine pE_br (v7 = 0) rfl rfl (fun c8 => ?_) (fun c8 => ?_)
      · rw [if_pos c8] at h
        refine pE_weak [none, none, none] trivial ?_
        exact f_M_isCable_28 sp d N S6 _ h
      · rw [if_neg c8] at h
        refine pE_jump 2 (pc' := 29) (ls' := [some (.ref a), some (.int p0), some (.int p1)]) (st' := [.int 1]) (fun _ => rfl) ?_
        refine pE_weak [none, none, none] trivial ?_
        exact f_M_isCable_29 sp d N 1 S6 _ h
def F_M_cable_95 (N : Nat)  (t0 : Int32) (S : pm_S) : Option (Int32 × pm_S) :=
    some (t0, S)
set_option maxHeartbeats 4000000 in
set_option maxRecDepth 20000 in
theorem f_M_cable_95 (sp : pm_I → List Value → pm_S → pm_O → Prop) (d N : Nat)  (t0 : Int32) (S : pm_S)  (r : (Int32 × pm_S)) (h : F_M_cable_95 N  t0 S = some r) : pmE pG (pm_rel pG sp (d + 2)) mi_M_cable 95 [none, none, none, none, none] [.int t0] S (some (.int r.1), r.2) := by
  unfold F_M_cable_95 at h
  cases h
  exact pE_ret rfl rfl rfl
def F_M_cable_24 (N : Nat)  (x0 : Nat) (x1 : Int32) (x2 : Int32) (x3 : Int32) (t0 : Int32) (t1 : Nat) (S : pm_S) : Option (Int32 × pm_S) :=
    (wF S t1 11 0 .int (.int t0)).bind fun S3 =>
    (oI S3 x0 11 0).bind fun v4 =>
    if v4 ≤ 0 then
    (if x3 = 0 then
    ((oR S3 x0 11 8).bind fun oq5 => match oq5 with
    | none => none
    | some q5 =>
    (aI [0, 6] S3 q5 ((7 * x1) + x2)).bind fun v6 =>
    F_M_cable_95 N v6 S3)
    else
    (if x3 = 1 then
    ((oR S3 x0 11 9).bind fun oq7 => match oq7 with
    | none => none
    | some q7 =>
    (aI [0, 6] S3 q7 ((7 * x1) + x2)).bind fun v8 =>
    F_M_cable_95 N v8 S3)
    else
    (if x3 = 2 then
    ((oR S3 x0 11 10).bind fun oq9 => match oq9 with
    | none => none
    | some q9 =>
    (aI [0, 6] S3 q9 ((7 * x1) + x2)).bind fun v10 =>
    F_M_cable_95 N v10 S3)
    else
    ((oR S3 x0 11 11).bind fun oq11 => match oq11 with
    | none => none
    | some q11 =>
    (aI [0, 6] S3 q11 ((7 * x1) + x2)).bind fun v12 =>
    F_M_cable_95 N v12 S3))))
    else
    some (0, S3)
set_option maxHeartbeats 4000000 in
set_option maxRecDepth 20000 in
theorem f_M_cable_24 (sp : pm_I → List Value → pm_S → pm_O → Prop) (d N : Nat)  (x0 : Nat) (x1 : Int32) (x2 : Int32) (x3 : Int32) (t0 : Int32) (t1 : Nat) (S : pm_S)  (r : (Int32 × pm_S)) (h : F_M_cable_24 N  x0 x1 x2 x3 t0 t1 S = some r) : pmE pG (pm_rel pG sp (d + 2)) mi_M_cable 24 [some (.ref x0), some (.int x1), some (.int x2), some (.int x3), none] [.int t0, .ref t1] S (some (.int r.1), r.2) := by
  unfold F_M_cable_24 at h
  obtain ⟨S3, hS3, h⟩ := obind h
  refine pE_pf rfl rfl rfl hS3 ?_
  refine pE_jump 1 (pc' := 28) (ls' := [some (.ref x0), some (.int x1), some (.int x2), some (.int x3), none]) (st' := [.ref x0]) (fun _ => rfl) ?_
  obtain ⟨v4, hv4, h⟩ := obind h
  refine pE_gfI rfl rfl hv4 ?_
  refine pE_br (v4 ≤ 0) rfl rfl (fun c16 => ?_) (fun c16 => ?_)
  · rw [if_pos c16] at h
    refine pE_jump 7 (pc' := 45) (ls' := [some (.ref x0), some (.int x1), some (.int x2), some (.int x3), some (.int ((7 * x1) + x2))]) (st' := [.int x3]) (fun _ => rfl) ?_
    refine pE_br (¬ x3 = 0) rfl rfl (fun c15 => ?_) (fun c15 => ?_)
    · rw [if_neg c15] at h
      refine pE_jump 2 (pc' := 60) (ls' := [some (.ref x0), some (.int x1), some (.int x2), some (.int x3), some (.int ((7 * x1) + x2))]) (st' := [.int 1, .int x3]) (fun _ => rfl) ?_
      refine pE_br (¬ x3 = 1) rfl rfl (fun c14 => ?_) (fun c14 => ?_)
      · rw [if_neg c14] at h
        refine pE_jump 2 (pc' := 75) (ls' := [some (.ref x0), some (.int x1), some (.int x2), some (.int x3), some (.int ((7 * x1) + x2))]) (st' := [.int 2, .int x3]) (fun _ => rfl) ?_
        refine pE_br (¬ x3 = 2) rfl rfl (fun c13 => ?_) (fun c13 => ?_)
        · rw [if_neg c13] at h
          refine pE_jump 1 (pc' := 89) (ls' := [some (.ref x0), some (.int x1), some (.int x2), some (.int x3), some (.int ((7 * x1) + x2))]) (st' := [.ref x0]) (fun _ => rfl) ?_
          obtain ⟨oq11, hq11, h⟩ := obind h
          cases oq11 with
          | none => cases h
          | some q11 =>
            try dsimp only at h
            refine pE_gfS rfl rfl hq11 ?_
            refine pE_jump 1 (pc' := 94) (ls' := [some (.ref x0), some (.int x1), some (.int x2), some (.int x3), some (.int ((7 * x1) + x2))]) (st' := [.int ((7 * x1) + x2), .ref q11]) (fun _ => rfl) ?_
            obtain ⟨v12, hv12, h⟩ := obind h
            refine pE_aI rfl rfl hv12 ?_
            refine pE_weak [none, none, none, none, none] trivial ?_
            exact f_M_cable_95 sp d N v12 S3 _ h
        · have c13 := Decidable.not_not.mp c13
          rw [if_pos c13] at h
          refine pE_jump 1 (pc' := 79) (ls' := [some (.ref x0), some (.int x1), some (.int x2), some (.int x3), some (.int ((7 * x1) + x2))]) (st' := [.ref x0]) (fun _ => rfl) ?_
          obtain ⟨oq9, hq9, h⟩ := obind h
          cases oq9 with
          | none => cases h
          | some q9 =>
            try dsimp only at h
            refine pE_gfS rfl rfl hq9 ?_
            refine pE_jump 1 (pc' := 84) (ls' := [some (.ref x0), some (.int x1), some (.int x2), some (.int x3), some (.int ((7 * x1) + x2))]) (st' := [.int ((7 * x1) + x2), .ref q9]) (fun _ => rfl) ?_
            obtain ⟨v10, hv10, h⟩ := obind h
            refine pE_aI rfl rfl hv10 ?_
            refine pE_jump 1 (pc' := 95) (ls' := [some (.ref x0), some (.int x1), some (.int x2), some (.int x3), some (.int ((7 * x1) + x2))]) (st' := [.int v10]) (fun _ => rfl) ?_
            refine pE_weak [none, none, none, none, none] trivial ?_
            exact f_M_cable_95 sp d N v10 S3 _ h
      · have c14 := Decidable.not_not.mp c14
        rw [if_pos c14] at h
        refine pE_jump 1 (pc' := 64) (ls' := [some (.ref x0), some (.int x1), some (.int x2), some (.int x3), some (.int ((7 * x1) + x2))]) (st' := [.ref x0]) (fun _ => rfl) ?_
        obtain ⟨oq7, hq7, h⟩ := obind h
        cases oq7 with
        | none => cases h
        | some q7 =>
          try dsimp only at h
          refine pE_gfS rfl rfl hq7 ?_
          refine pE_jump 1 (pc' := 69) (ls' := [some (.ref x0), some (.int x1), some (.int x2), some (.int x3), some (.int ((7 * x1) + x2))]) (st' := [.int ((7 * x1) + x2), .ref q7]) (fun _ => rfl) ?_
          obtain ⟨v8, hv8, h⟩ := obind h
          refine pE_aI rfl rfl hv8 ?_
          refine pE_jump 1 (pc' := 95) (ls' := [some (.ref x0), some (.int x1), some (.int x2), some (.int x3), some (.int ((7 * x1) + x2))]) (st' := [.int v8]) (fun _ => rfl) ?_
          refine pE_weak [none, none, none, none, none] trivial ?_
          exact f_M_cable_95 sp d N v8 S3 _ h
    · have c15 := Decidable.not_not.mp c15
      rw [if_pos c15] at h
      refine pE_jump 1 (pc' := 49) (ls' := [some (.ref x0), some (.int x1), some (.int x2), some (.int x3), some (.int ((7 * x1) + x2))]) (st' := [.ref x0]) (fun _ => rfl) ?_
      obtain ⟨oq5, hq5, h⟩ := obind h
      cases oq5 with
      | none => cases h
      | some q5 =>
        try dsimp only at h
        refine pE_gfS rfl rfl hq5 ?_
        refine pE_jump 1 (pc' := 54) (ls' := [some (.ref x0), some (.int x1), some (.int x2), some (.int x3), some (.int ((7 * x1) + x2))]) (st' := [.int ((7 * x1) + x2), .ref q5]) (fun _ => rfl) ?_
        obtain ⟨v6, hv6, h⟩ := obind h
        refine pE_aI rfl rfl hv6 ?_
        refine pE_jump 1 (pc' := 95) (ls' := [some (.ref x0), some (.int x1), some (.int x2), some (.int x3), some (.int ((7 * x1) + x2))]) (st' := [.int v6]) (fun _ => rfl) ?_
        refine pE_weak [none, none, none, none, none] trivial ?_
        exact f_M_cable_95 sp d N v6 S3 _ h
  · rw [if_neg c16] at h
    refine pE_jump 1 (pc' := 35) (ls' := [some (.ref x0), some (.int x1), some (.int x2), some (.int x3), none]) (st' := [.int 0]) (fun _ => rfl) ?_
    cases h
    exact pE_ret rfl rfl rfl
def F_M_cable_23 (N : Nat)  (x0 : Nat) (x1 : Int32) (x2 : Int32) (x3 : Int32) (t0 : Nat) (S : pm_S) : Option (Int32 × pm_S) :=
    F_M_cable_24 N x0 x1 x2 x3 1 t0 S
set_option maxHeartbeats 4000000 in
set_option maxRecDepth 20000 in
theorem f_M_cable_23 (sp : pm_I → List Value → pm_S → pm_O → Prop) (d N : Nat)  (x0 : Nat) (x1 : Int32) (x2 : Int32) (x3 : Int32) (t0 : Nat) (S : pm_S)  (r : (Int32 × pm_S)) (h : F_M_cable_23 N  x0 x1 x2 x3 t0 S = some r) : pmE pG (pm_rel pG sp (d + 2)) mi_M_cable 23 [some (.ref x0), some (.int x1), some (.int x2), some (.int x3), none] [.ref t0] S (some (.int r.1), r.2) := by
  unfold F_M_cable_23 at h
  refine pE_jump 1 (pc' := 24) (ls' := [some (.ref x0), some (.int x1), some (.int x2), some (.int x3), none]) (st' := [.int 1, .ref t0]) (fun _ => rfl) ?_
  exact f_M_cable_24 sp d N x0 x1 x2 x3 1 t0 S _ h
def F_M_cable (N : Nat) (S : pm_S) (a : Nat) (p0 : Int32) (p1 : Int32) (p2 : Int32) : Option (Int32 × pm_S) :=
    if rcv S a 11 = true then
    ((F_M_isCable N S a p0 p1).bind fun (v2, S1) =>
    if v2 = 0 then
    F_M_cable_23 N a p0 p1 p2 a S1
    else
    ((F_M_isIn N S1 p2 0 3).bind fun (v18, S17) =>
    if v18 = 0 then
    F_M_cable_23 N a p0 p1 p2 a S17
    else
    F_M_cable_24 N a p0 p1 p2 0 a S17))
    else none
theorem g_M_cable {N : Nat} {S : pm_S} {a : Nat} {p0 : Int32} {p1 : Int32} {p2 : Int32} {r : (Int32 × pm_S)} (h : F_M_cable N S a p0 p1 p2 = some r) : rcv S a 11 = true := by
  unfold F_M_cable at h
  by_cases c : rcv S a 11 = true
  · exact c
  · rw [if_neg c] at h; cases h
set_option maxHeartbeats 4000000 in
set_option maxRecDepth 20000 in
theorem f_M_cable (sp : pm_I → List Value → pm_S → pm_O → Prop) (d N : Nat) (S : pm_S) (a : Nat) (p0 : Int32) (p1 : Int32) (p2 : Int32) (r : (Int32 × pm_S)) (h : F_M_cable N S a p0 p1 p2 = some r) : pm_rel pG sp (d + 3) mi_M_cable [.ref a, .int p0, .int p1, .int p2] S (some (.int r.1), r.2) := by
  have hg := g_M_cable h
  unfold F_M_cable at h
  rw [if_pos hg] at h
  refine pE_rel (d := d + 2) ?_
  show pmE pG _ mi_M_cable 0 [some (.ref a), some (.int p0), some (.int p1), some (.int p2), none] [] S _
  refine pE_jump 4 (pc' := 4) (ls' := [some (.ref a), some (.int p0), some (.int p1), some (.int p2), none]) (st' := [.int p1, .int p0, .ref a, .ref a]) (fun _ => rfl) ?_
  obtain ⟨⟨v2, S1⟩, hv2, h⟩ := obind h
  try dsimp only at h
  refine pE_iv (Bs := [.int p0, .int p1]) (st := [.ref a]) 1 rfl (Or.inl ⟨rfl, rfl⟩) rfl rfl (Nat.le_of_ble_eq_true rfl) (Nat.le_of_ble_eq_true rfl) (g_M_isCable hv2) (f_M_isCable sp d N S a p0 p1 _ hv2) ?_
  refine pE_br (v2 = 0) rfl rfl (fun c20 => ?_) (fun c20 => ?_)
  · rw [if_pos c20] at h
    exact f_M_cable_23 sp d N a p0 p1 p2 a S1 _ h
  · rw [if_neg c20] at h
    refine pE_jump 3 (pc' := 13) (ls' := [some (.ref a), some (.int p0), some (.int p1), some (.int p2), none]) (st' := [.int 3, .int 0, .int p2, .ref a]) (fun _ => rfl) ?_
    obtain ⟨⟨v18, S17⟩, hv18, h⟩ := obind h
    try dsimp only at h
    refine pE_is (Bs := [.int p2, .int 0, .int 3]) (st := [.ref a]) rfl rfl rfl (Nat.le_of_ble_eq_true rfl) (Nat.le_of_ble_eq_true rfl) (f_M_isIn sp (d + 1) N S1 p2 0 3 _ hv18) ?_
    refine pE_br (v18 = 0) rfl rfl (fun c19 => ?_) (fun c19 => ?_)
    · rw [if_pos c19] at h
      exact f_M_cable_23 sp d N a p0 p1 p2 a S17 _ h
    · rw [if_neg c19] at h
      refine pE_jump 2 (pc' := 24) (ls' := [some (.ref a), some (.int p0), some (.int p1), some (.int p2), none]) (st' := [.int 0, .ref a]) (fun _ => rfl) ?_
      exact f_M_cable_24 sp d N a p0 p1 p2 0 a S17 _ h
def F_M_isPair_35 (N : Nat)  (t0 : Int32) (S : pm_S) : Option (Int32 × pm_S) :=
    if t0 = 0 ∨ t0 = 1 then some (t0, S) else none
set_option maxHeartbeats 4000000 in
set_option maxRecDepth 20000 in
theorem f_M_isPair_35 (sp : pm_I → List Value → pm_S → pm_O → Prop) (d N : Nat)  (t0 : Int32) (S : pm_S)  (r : (Int32 × pm_S)) (h : F_M_isPair_35 N  t0 S = some r) : pmE pG (pm_rel pG sp (d + 2)) mi_M_isPair 35 [none, none, none, none] [.int t0] S (some (.int r.1), r.2) := by
  unfold F_M_isPair_35 at h
  by_cases c3 : t0 = 0 ∨ t0 = 1
  · rw [if_pos c3] at h
    cases h
    exact pE_ret rfl (if_pos c3) rfl
  · rw [if_neg c3] at h
    cases h
def F_M_isPair_34 (N : Nat)   (S : pm_S) : Option (Int32 × pm_S) :=
    F_M_isPair_35 N 0 S
set_option maxHeartbeats 4000000 in
set_option maxRecDepth 20000 in
theorem f_M_isPair_34 (sp : pm_I → List Value → pm_S → pm_O → Prop) (d N : Nat)   (S : pm_S)  (r : (Int32 × pm_S)) (h : F_M_isPair_34 N   S = some r) : pmE pG (pm_rel pG sp (d + 2)) mi_M_isPair 34 [none, none, none, none] [] S (some (.int r.1), r.2) := by
  unfold F_M_isPair_34 at h
  refine pE_jump 1 (pc' := 35) (ls' := [none, none, none, none]) (st' := [.int 0]) (fun _ => rfl) ?_
  exact f_M_isPair_35 sp d N 0 S _ h
def F_M_isPair (N : Nat) (S : pm_S) (a : Nat) (p0 : Int32) (p1 : Int32) (p2 : Int32) : Option (Int32 × pm_S) :=
    if rcv S a 11 = true then
    ((F_M_isCable N S a p0 p1).bind fun (v2, S1) =>
    if v2 = 0 then
    F_M_isPair_34 N S1
    else
    ((oR S1 a 11 10).bind fun oq4 => match oq4 with
    | none => none
    | some q4 =>
    (aI [0, 6] S1 q4 ((7 * p0) + p1)).bind fun v5 =>
    (F_M_isIn N S1 p2 0 (v5 - 1)).bind fun (v7, S6) =>
    if v7 = 0 then
    F_M_isPair_34 N S6
    else
    F_M_isPair_35 N 1 S6))
    else none
theorem g_M_isPair {N : Nat} {S : pm_S} {a : Nat} {p0 : Int32} {p1 : Int32} {p2 : Int32} {r : (Int32 × pm_S)} (h : F_M_isPair N S a p0 p1 p2 = some r) : rcv S a 11 = true := by
  unfold F_M_isPair at h
  by_cases c : rcv S a 11 = true
  · exact c
  · rw [if_neg c] at h; cases h
set_option maxHeartbeats 4000000 in
set_option maxRecDepth 20000 in
theorem f_M_isPair (sp : pm_I → List Value → pm_S → pm_O → Prop) (d N : Nat) (S : pm_S) (a : Nat) (p0 : Int32) (p1 : Int32) (p2 : Int32) (r : (Int32 × pm_S)) (h : F_M_isPair N S a p0 p1 p2 = some r) : pm_rel pG sp (d + 3) mi_M_isPair [.ref a, .int p0, .int p1, .int p2] S (some (.int r.1), r.2) := by
  have hg := g_M_isPair h
  unfold F_M_isPair at h
  rw [if_pos hg] at h
  refine pE_rel (d := d + 2) ?_
  show pmE pG _ mi_M_isPair 0 [some (.ref a), some (.int p0), some (.int p1), some (.int p2)] [] S _
  refine pE_jump 3 (pc' := 3) (ls' := [some (.ref a), some (.int p0), some (.int p1), some (.int p2)]) (st' := [.int p1, .int p0, .ref a]) (fun _ => rfl) ?_
  obtain ⟨⟨v2, S1⟩, hv2, h⟩ := obind h
  try dsimp only at h
  refine pE_iv (Bs := [.int p0, .int p1]) (st := []) 1 rfl (Or.inl ⟨rfl, rfl⟩) rfl rfl (Nat.le_of_ble_eq_true rfl) (Nat.le_of_ble_eq_true rfl) (g_M_isCable hv2) (f_M_isCable sp d N S a p0 p1 _ hv2) ?_
  refine pE_br (v2 = 0) rfl rfl (fun c9 => ?_) (fun c9 => ?_)
  · rw [if_pos c9] at h
    refine pE_weak [none, none, none, none] trivial ?_
    exact f_M_isPair_34 sp d N S1 _ h
  · rw [if_neg c9] at h
    refine pE_jump 3 (pc' := 12) (ls' := [some (.ref a), some (.int p0), some (.int p1), some (.int p2)]) (st' := [.ref a, .int 0, .int p2]) (fun _ => rfl) ?_
    obtain ⟨oq4, hq4, h⟩ := obind h
    cases oq4 with
    | none => cases h
    | some q4 =>
      try dsimp only at h
      refine pE_gfS rfl rfl hq4 ?_
      refine pE_jump 5 (pc' := 21) (ls' := [some (.ref a), some (.int p0), some (.int p1), some (.int p2)]) (st' := [.int ((7 * p0) + p1), .ref q4, .int 0, .int p2]) (fun _ => rfl) ?_
      obtain ⟨v5, hv5, h⟩ := obind h
      refine pE_aI rfl rfl hv5 ?_
      refine pE_jump 2 (pc' := 24) (ls' := [some (.ref a), some (.int p0), some (.int p1), some (.int p2)]) (st' := [.int (v5 - 1), .int 0, .int p2]) (fun _ => rfl) ?_
      obtain ⟨⟨v7, S6⟩, hv7, h⟩ := obind h
      try dsimp only at h
      refine pE_is (Bs := [.int p2, .int 0, .int (v5 - 1)]) (st := []) rfl rfl rfl (Nat.le_of_ble_eq_true rfl) (Nat.le_of_ble_eq_true rfl) (f_M_isIn sp (d + 1) N S1 p2 0 (v5 - 1) _ hv7) ?_
      refine pE_br (v7 = 0) rfl rfl (fun c8 => ?_) (fun c8 => ?_)
      · rw [if_pos c8] at h
        refine pE_weak [none, none, none, none] trivial ?_
        exact f_M_isPair_34 sp d N S6 _ h
      · rw [if_neg c8] at h
        refine pE_jump 2 (pc' := 35) (ls' := [some (.ref a), some (.int p0), some (.int p1), some (.int p2)]) (st' := [.int 1]) (fun _ => rfl) ?_
        refine pE_weak [none, none, none, none] trivial ?_
        exact f_M_isPair_35 sp d N 1 S6 _ h
def F_M_slip_44 (N : Nat)   (S : pm_S) : Option (Int32 × pm_S) :=
    some ((-1), S)
set_option maxHeartbeats 4000000 in
set_option maxRecDepth 20000 in
theorem f_M_slip_44 (sp : pm_I → List Value → pm_S → pm_O → Prop) (d N : Nat)   (S : pm_S)  (r : (Int32 × pm_S)) (h : F_M_slip_44 N   S = some r) : pmE pG (pm_rel pG sp (d + 3)) mi_M_slip 44 [none, none, none, none, none, none, none] [] S (some (.int r.1), r.2) := by
  unfold F_M_slip_44 at h
  refine pE_jump 1 (pc' := 45) (ls' := [none, none, none, none, none, none, none]) (st' := [.int (-1)]) (fun _ => rfl) ?_
  cases h
  exact pE_ret rfl rfl rfl
def F_M_slip_102 (N : Nat)   (S : pm_S) : Option (Int32 × pm_S) :=
    some ((-1), S)
set_option maxHeartbeats 4000000 in
set_option maxRecDepth 20000 in
theorem f_M_slip_102 (sp : pm_I → List Value → pm_S → pm_O → Prop) (d N : Nat)   (S : pm_S)  (r : (Int32 × pm_S)) (h : F_M_slip_102 N   S = some r) : pmE pG (pm_rel pG sp (d + 3)) mi_M_slip 102 [none, none, none, none, none, none, none] [] S (some (.int r.1), r.2) := by
  unfold F_M_slip_102 at h
  refine pE_jump 1 (pc' := 103) (ls' := [none, none, none, none, none, none, none]) (st' := [.int (-1)]) (fun _ => rfl) ?_
  cases h
  exact pE_ret rfl rfl rfl
def F_M_slip_104 (N : Nat)  (x0 : Nat) (x1 : Int32) (x2 : Int32) (x3 : Int32) (x4 : Int32) (x5 : Int32) (x6 : Int32) (S : pm_S) : Option (Int32 × pm_S) :=
    (F_M_tell N S x0 x1 x2 x3 x4 x5 x6).bind fun S16 =>
    (oR S16 x0 11 18).bind fun oq17 => match oq17 with
    | none => none
    | some q17 =>
    (aI [0, 6] S16 q17 x1).bind fun v18 =>
    (sI [0] S16 q17 x1 (v18 + 1)).bind fun S19 =>
    (oR S19 x0 11 18).bind fun oq20 => match oq20 with
    | none => none
    | some q20 =>
    (aI [0, 6] S19 q20 x1).bind fun v21 =>
    some (v21 - 1, S19)
set_option maxHeartbeats 4000000 in
set_option maxRecDepth 20000 in
theorem f_M_slip_104 (sp : pm_I → List Value → pm_S → pm_O → Prop) (d N : Nat)  (x0 : Nat) (x1 : Int32) (x2 : Int32) (x3 : Int32) (x4 : Int32) (x5 : Int32) (x6 : Int32) (S : pm_S)  (r : (Int32 × pm_S)) (h : F_M_slip_104 N  x0 x1 x2 x3 x4 x5 x6 S = some r) : pmE pG (pm_rel pG sp (d + 3)) mi_M_slip 104 [some (.ref x0), some (.int x1), some (.int x2), some (.int x3), some (.int x4), some (.int x5), some (.int x6)] [] S (some (.int r.1), r.2) := by
  unfold F_M_slip_104 at h
  refine pE_jump 7 (pc' := 114) (ls' := [some (.ref x0), some (.int x1), some (.int x2), some (.int x3), some (.int x4), some (.int x5), some (.int x6)]) (st' := [.int x6, .int x5, .int x4, .int x3, .int x2, .int x1, .ref x0]) (fun _ => rfl) ?_
  obtain ⟨S16, hS16, h⟩ := obind h
  refine pE_iv (Bs := [.int x1, .int x2, .int x3, .int x4, .int x5, .int x6]) (st := []) 1 rfl (Or.inl ⟨rfl, rfl⟩) rfl rfl (Nat.le_of_ble_eq_true rfl) (Nat.le_of_ble_eq_true rfl) (g_M_tell hS16) (f_M_tell sp (d + 2) N S x0 x1 x2 x3 x4 x5 x6 _ hS16) ?_
  refine pE_jump 1 (pc' := 118) (ls' := [some (.ref x0), some (.int x1), some (.int x2), some (.int x3), some (.int x4), some (.int x5), some (.int x6)]) (st' := [.ref x0]) (fun _ => rfl) ?_
  obtain ⟨oq17, hq17, h⟩ := obind h
  cases oq17 with
  | none => cases h
  | some q17 =>
    try dsimp only at h
    refine pE_gfS rfl rfl hq17 ?_
    refine pE_jump 2 (pc' := 123) (ls' := [some (.ref x0), some (.int x1), some (.int x2), some (.int x3), some (.int x4), some (.int x5), some (.int x6)]) (st' := [.int x1, .ref q17, .int x1, .ref q17]) (fun _ => rfl) ?_
    obtain ⟨v18, hv18, h⟩ := obind h
    refine pE_aI rfl rfl hv18 ?_
    refine pE_jump 2 (pc' := 126) (ls' := [some (.ref x0), some (.int x1), some (.int x2), some (.int x3), some (.int x4), some (.int x5), some (.int x6)]) (st' := [.int (v18 + 1), .int x1, .ref q17]) (fun _ => rfl) ?_
    obtain ⟨S19, hS19, h⟩ := obind h
    refine pE_sI rfl rfl hS19 ?_
    refine pE_jump 1 (pc' := 128) (ls' := [some (.ref x0), some (.int x1), some (.int x2), some (.int x3), some (.int x4), some (.int x5), some (.int x6)]) (st' := [.ref x0]) (fun _ => rfl) ?_
    obtain ⟨oq20, hq20, h⟩ := obind h
    cases oq20 with
    | none => cases h
    | some q20 =>
      try dsimp only at h
      refine pE_gfS rfl rfl hq20 ?_
      refine pE_jump 1 (pc' := 132) (ls' := [some (.ref x0), some (.int x1), some (.int x2), some (.int x3), some (.int x4), some (.int x5), some (.int x6)]) (st' := [.int x1, .ref q20]) (fun _ => rfl) ?_
      obtain ⟨v21, hv21, h⟩ := obind h
      refine pE_aI rfl rfl hv21 ?_
      refine pE_jump 2 (pc' := 135) (ls' := [some (.ref x0), some (.int x1), some (.int x2), some (.int x3), some (.int x4), some (.int x5), some (.int x6)]) (st' := [.int (v21 - 1)]) (fun _ => rfl) ?_
      cases h
      exact pE_ret rfl rfl rfl
def F_M_slip (N : Nat) (S : pm_S) (a : Nat) (p0 : Int32) (p1 : Int32) (p2 : Int32) (p3 : Int32) (p4 : Int32) (p5 : Int32) : Option (Int32 × pm_S) :=
    if rcv S a 11 = true then
    ((wF S a 11 0 .int (.int 0)).bind fun S1 =>
    (F_M_isPlan N S1 a p0).bind fun (v3, S2) =>
    if v3 = 0 then
    F_M_slip_44 N S2
    else
    ((oR S2 a 11 18).bind fun oq4 => match oq4 with
    | none => none
    | some q4 =>
    (aI [0, 6] S2 q4 p0).bind fun v5 =>
    if v5 = 6 then
    F_M_slip_44 N S2
    else
    ((F_M_isIn N S2 p1 0 1).bind fun (v7, S6) =>
    if v7 = 0 then
    F_M_slip_44 N S6
    else
    ((F_M_isPair N S6 a p0 p2 p3).bind fun (v9, S8) =>
    if v9 = 0 then
    F_M_slip_44 N S8
    else
    (if p1 = 0 then
    ((F_M_isPair N S8 a p0 p4 p5).bind fun (v11, S10) =>
    if v11 = 0 then
    F_M_slip_102 N S10
    else
    ((oR S10 a 11 8).bind fun oq12 => match oq12 with
    | none => none
    | some q12 =>
    (aI [0, 6] S10 q12 ((7 * p0) + p4)).bind fun v13 =>
    (oR S10 a 11 9).bind fun oq14 => match oq14 with
    | none => none
    | some q14 =>
    (aI [0, 6] S10 q14 ((7 * p0) + p2)).bind fun v15 =>
    if v13 = v15 then
    F_M_slip_104 N a p0 p1 p2 p3 p4 p5 S10
    else
    F_M_slip_102 N S10))
    else
    ((F_M_isIn N S8 p4 0 9).bind fun (v25, S24) =>
    if v25 = 0 then
    F_M_slip_102 N S24
    else
    F_M_slip_104 N a p0 p1 p2 p3 p4 p5 S24))))))
    else none
theorem g_M_slip {N : Nat} {S : pm_S} {a : Nat} {p0 : Int32} {p1 : Int32} {p2 : Int32} {p3 : Int32} {p4 : Int32} {p5 : Int32} {r : (Int32 × pm_S)} (h : F_M_slip N S a p0 p1 p2 p3 p4 p5 = some r) : rcv S a 11 = true := by
  unfold F_M_slip at h
  by_cases c : rcv S a 11 = true
  · exact c
  · rw [if_neg c] at h; cases h
set_option maxHeartbeats 4000000 in
set_option maxRecDepth 20000 in
theorem f_M_slip (sp : pm_I → List Value → pm_S → pm_O → Prop) (d N : Nat) (S : pm_S) (a : Nat) (p0 : Int32) (p1 : Int32) (p2 : Int32) (p3 : Int32) (p4 : Int32) (p5 : Int32) (r : (Int32 × pm_S)) (h : F_M_slip N S a p0 p1 p2 p3 p4 p5 = some r) : pm_rel pG sp (d + 4) mi_M_slip [.ref a, .int p0, .int p1, .int p2, .int p3, .int p4, .int p5] S (some (.int r.1), r.2) := by
  have hg := g_M_slip h
  unfold F_M_slip at h
  rw [if_pos hg] at h
  refine pE_rel (d := d + 3) ?_
  show pmE pG _ mi_M_slip 0 [some (.ref a), some (.int p0), some (.int p1), some (.int p2), some (.int p3), some (.int p4), some (.int p5)] [] S _
  refine pE_jump 2 (pc' := 2) (ls' := [some (.ref a), some (.int p0), some (.int p1), some (.int p2), some (.int p3), some (.int p4), some (.int p5)]) (st' := [.int 0, .ref a]) (fun _ => rfl) ?_
  obtain ⟨S1, hS1, h⟩ := obind h
  refine pE_pf rfl rfl rfl hS1 ?_
  refine pE_jump 2 (pc' := 7) (ls' := [some (.ref a), some (.int p0), some (.int p1), some (.int p2), some (.int p3), some (.int p4), some (.int p5)]) (st' := [.int p0, .ref a]) (fun _ => rfl) ?_
  obtain ⟨⟨v3, S2⟩, hv3, h⟩ := obind h
  try dsimp only at h
  refine pE_iv (Bs := [.int p0]) (st := []) 1 rfl (Or.inl ⟨rfl, rfl⟩) rfl rfl (Nat.le_of_ble_eq_true rfl) (Nat.le_of_ble_eq_true rfl) (g_M_isPlan hv3) (f_M_isPlan sp (d + 2) N S1 a p0 _ hv3) ?_
  refine pE_br (v3 = 0) rfl rfl (fun c31 => ?_) (fun c31 => ?_)
  · rw [if_pos c31] at h
    refine pE_weak [none, none, none, none, none, none, none] trivial ?_
    exact f_M_slip_44 sp d N S2 _ h
  · rw [if_neg c31] at h
    refine pE_jump 1 (pc' := 14) (ls' := [some (.ref a), some (.int p0), some (.int p1), some (.int p2), some (.int p3), some (.int p4), some (.int p5)]) (st' := [.ref a]) (fun _ => rfl) ?_
    obtain ⟨oq4, hq4, h⟩ := obind h
    cases oq4 with
    | none => cases h
    | some q4 =>
      try dsimp only at h
      refine pE_gfS rfl rfl hq4 ?_
      refine pE_jump 1 (pc' := 18) (ls' := [some (.ref a), some (.int p0), some (.int p1), some (.int p2), some (.int p3), some (.int p4), some (.int p5)]) (st' := [.int p0, .ref q4]) (fun _ => rfl) ?_
      obtain ⟨v5, hv5, h⟩ := obind h
      refine pE_aI rfl rfl hv5 ?_
      refine pE_jump 1 (pc' := 21) (ls' := [some (.ref a), some (.int p0), some (.int p1), some (.int p2), some (.int p3), some (.int p4), some (.int p5)]) (st' := [.int 6, .int v5]) (fun _ => rfl) ?_
      refine pE_br (v5 = 6) rfl rfl (fun c30 => ?_) (fun c30 => ?_)
      · rw [if_pos c30] at h
        refine pE_weak [none, none, none, none, none, none, none] trivial ?_
        exact f_M_slip_44 sp d N S2 _ h
      · rw [if_neg c30] at h
        refine pE_jump 3 (pc' := 27) (ls' := [some (.ref a), some (.int p0), some (.int p1), some (.int p2), some (.int p3), some (.int p4), some (.int p5)]) (st' := [.int 1, .int 0, .int p1]) (fun _ => rfl) ?_
        obtain ⟨⟨v7, S6⟩, hv7, h⟩ := obind h
        try dsimp only at h
        refine pE_is (Bs := [.int p1, .int 0, .int 1]) (st := []) rfl rfl rfl (Nat.le_of_ble_eq_true rfl) (Nat.le_of_ble_eq_true rfl) (f_M_isIn sp (d + 2) N S2 p1 0 1 _ hv7) ?_
        refine pE_br (v7 = 0) rfl rfl (fun c29 => ?_) (fun c29 => ?_)
        · rw [if_pos c29] at h
          refine pE_weak [none, none, none, none, none, none, none] trivial ?_
          exact f_M_slip_44 sp d N S6 _ h
        · rw [if_neg c29] at h
          refine pE_jump 4 (pc' := 38) (ls' := [some (.ref a), some (.int p0), some (.int p1), some (.int p2), some (.int p3), some (.int p4), some (.int p5)]) (st' := [.int p3, .int p2, .int p0, .ref a]) (fun _ => rfl) ?_
          obtain ⟨⟨v9, S8⟩, hv9, h⟩ := obind h
          try dsimp only at h
          refine pE_iv (Bs := [.int p0, .int p2, .int p3]) (st := []) 1 rfl (Or.inl ⟨rfl, rfl⟩) rfl rfl (Nat.le_of_ble_eq_true rfl) (Nat.le_of_ble_eq_true rfl) (g_M_isPair hv9) (f_M_isPair sp d N S6 a p0 p2 p3 _ hv9) ?_
          refine pE_br (¬ v9 = 0) rfl rfl (fun c28 => ?_) (fun c28 => ?_)
          · rw [if_neg c28] at h
            refine pE_jump 1 (pc' := 47) (ls' := [some (.ref a), some (.int p0), some (.int p1), some (.int p2), some (.int p3), some (.int p4), some (.int p5)]) (st' := [.int p1]) (fun _ => rfl) ?_
            refine pE_br (¬ p1 = 0) rfl rfl (fun c27 => ?_) (fun c27 => ?_)
            · rw [if_neg c27] at h
              refine pE_jump 3 (pc' := 96) (ls' := [some (.ref a), some (.int p0), some (.int p1), some (.int p2), some (.int p3), some (.int p4), some (.int p5)]) (st' := [.int 9, .int 0, .int p4]) (fun _ => rfl) ?_
              obtain ⟨⟨v25, S24⟩, hv25, h⟩ := obind h
              try dsimp only at h
              refine pE_is (Bs := [.int p4, .int 0, .int 9]) (st := []) rfl rfl rfl (Nat.le_of_ble_eq_true rfl) (Nat.le_of_ble_eq_true rfl) (f_M_isIn sp (d + 2) N S8 p4 0 9 _ hv25) ?_
              refine pE_br (¬ v25 = 0) rfl rfl (fun c26 => ?_) (fun c26 => ?_)
              · rw [if_neg c26] at h
                exact f_M_slip_104 sp d N a p0 p1 p2 p3 p4 p5 S24 _ h
              · have c26 := Decidable.not_not.mp c26
                rw [if_pos c26] at h
                refine pE_weak [none, none, none, none, none, none, none] trivial ?_
                exact f_M_slip_102 sp d N S24 _ h
            · have c27 := Decidable.not_not.mp c27
              rw [if_pos c27] at h
              refine pE_jump 4 (pc' := 56) (ls' := [some (.ref a), some (.int p0), some (.int p1), some (.int p2), some (.int p3), some (.int p4), some (.int p5)]) (st' := [.int p5, .int p4, .int p0, .ref a]) (fun _ => rfl) ?_
              obtain ⟨⟨v11, S10⟩, hv11, h⟩ := obind h
              try dsimp only at h
              refine pE_iv (Bs := [.int p0, .int p4, .int p5]) (st := []) 1 rfl (Or.inl ⟨rfl, rfl⟩) rfl rfl (Nat.le_of_ble_eq_true rfl) (Nat.le_of_ble_eq_true rfl) (g_M_isPair hv11) (f_M_isPair sp d N S8 a p0 p4 p5 _ hv11) ?_
              refine pE_br (v11 = 0) rfl rfl (fun c23 => ?_) (fun c23 => ?_)
              · rw [if_pos c23] at h
                refine pE_weak [none, none, none, none, none, none, none] trivial ?_
                exact f_M_slip_102 sp d N S10 _ h
              · rw [if_neg c23] at h
                refine pE_jump 1 (pc' := 63) (ls' := [some (.ref a), some (.int p0), some (.int p1), some (.int p2), some (.int p3), some (.int p4), some (.int p5)]) (st' := [.ref a]) (fun _ => rfl) ?_
                obtain ⟨oq12, hq12, h⟩ := obind h
                cases oq12 with
                | none => cases h
                | some q12 =>
                  try dsimp only at h
                  refine pE_gfS rfl rfl hq12 ?_
                  refine pE_jump 5 (pc' := 73) (ls' := [some (.ref a), some (.int p0), some (.int p1), some (.int p2), some (.int p3), some (.int p4), some (.int p5)]) (st' := [.int ((7 * p0) + p4), .ref q12]) (fun _ => rfl) ?_
                  obtain ⟨v13, hv13, h⟩ := obind h
                  refine pE_aI rfl rfl hv13 ?_
                  refine pE_jump 1 (pc' := 75) (ls' := [some (.ref a), some (.int p0), some (.int p1), some (.int p2), some (.int p3), some (.int p4), some (.int p5)]) (st' := [.ref a, .int v13]) (fun _ => rfl) ?_
                  obtain ⟨oq14, hq14, h⟩ := obind h
                  cases oq14 with
                  | none => cases h
                  | some q14 =>
                    try dsimp only at h
                    refine pE_gfS rfl rfl hq14 ?_
                    refine pE_jump 5 (pc' := 84) (ls' := [some (.ref a), some (.int p0), some (.int p1), some (.int p2), some (.int p3), some (.int p4), some (.int p5)]) (st' := [.int ((7 * p0) + p2), .ref q14, .int v13]) (fun _ => rfl) ?_
                    obtain ⟨v15, hv15, h⟩ := obind h
                    refine pE_aI rfl rfl hv15 ?_
                    refine pE_br (v13 = v15) rfl rfl (fun c22 => ?_) (fun c22 => ?_)
                    · rw [if_pos c22] at h
                      exact f_M_slip_104 sp d N a p0 p1 p2 p3 p4 p5 S10 _ h
                    · rw [if_neg c22] at h
                      refine pE_jump 1 (pc' := 102) (ls' := [some (.ref a), some (.int p0), some (.int p1), some (.int p2), some (.int p3), some (.int p4), some (.int p5)]) (st' := []) (fun _ => rfl) ?_
                      refine pE_weak [none, none, none, none, none, none, none] trivial ?_
                      exact f_M_slip_102 sp d N S10 _ h
          · have c28 := Decidable.not_not.mp c28
            rw [if_pos c28] at h
            refine pE_weak [none, none, none, none, none, none, none] trivial ?_
            exact f_M_slip_44 sp d N S8 _ h
def F_M_trouble_33 (N : Nat)   (S : pm_S) : Option (Int32 × pm_S) :=
    some ((-1), S)
set_option maxHeartbeats 4000000 in
set_option maxRecDepth 20000 in
theorem f_M_trouble_33 (sp : pm_I → List Value → pm_S → pm_O → Prop) (d N : Nat)   (S : pm_S)  (r : (Int32 × pm_S)) (h : F_M_trouble_33 N   S = some r) : pmE pG (pm_rel pG sp (d + 3)) mi_M_trouble 33 [none, none, none, none, none, none, none, none, none] [] S (some (.int r.1), r.2) := by
  unfold F_M_trouble_33 at h
  refine pE_jump 1 (pc' := 34) (ls' := [none, none, none, none, none, none, none, none, none]) (st' := [.int (-1)]) (fun _ => rfl) ?_
  cases h
  exact pE_ret rfl rfl rfl
def F_M_trouble_119 (N : Nat)  (x0 : Nat) (x1 : Int32) (x2 : Int32) (x3 : Int32) (x4 : Int32) (x5 : Int32) (x6 : Int32) (t0 : Int32) (S : pm_S) : Option (Int32 × pm_S) :=
    if t0 = 0 then
    some ((-1), S)
    else
    ((oR S x0 11 20).bind fun oq12 => match oq12 with
    | none => none
    | some q12 =>
    (aI [0, 6] S q12 x1).bind fun v13 =>
    (oR S x0 11 21).bind fun oq14 => match oq14 with
    | none => none
    | some q14 =>
    (sI [0] S q14 ((10 * x1) + v13) x2).bind fun S15 =>
    (oR S15 x0 11 22).bind fun oq16 => match oq16 with
    | none => none
    | some q16 =>
    (sI [0] S15 q16 ((10 * x1) + v13) x3).bind fun S17 =>
    (oR S17 x0 11 23).bind fun oq18 => match oq18 with
    | none => none
    | some q18 =>
    (sI [0] S17 q18 ((10 * x1) + v13) x4).bind fun S19 =>
    (oR S19 x0 11 24).bind fun oq20 => match oq20 with
    | none => none
    | some q20 =>
    (sI [0] S19 q20 ((10 * x1) + v13) x5).bind fun S21 =>
    (oR S21 x0 11 25).bind fun oq22 => match oq22 with
    | none => none
    | some q22 =>
    (sI [0] S21 q22 ((10 * x1) + v13) x6).bind fun S23 =>
    (oR S23 x0 11 20).bind fun oq24 => match oq24 with
    | none => none
    | some q24 =>
    (aI [0, 6] S23 q24 x1).bind fun v25 =>
    (sI [0] S23 q24 x1 (v25 + 1)).bind fun S26 =>
    (oR S26 x0 11 20).bind fun oq27 => match oq27 with
    | none => none
    | some q27 =>
    (aI [0, 6] S26 q27 x1).bind fun v28 =>
    some (v28 - 1, S26))
set_option maxHeartbeats 4000000 in
set_option maxRecDepth 20000 in
theorem f_M_trouble_119 (sp : pm_I → List Value → pm_S → pm_O → Prop) (d N : Nat)  (x0 : Nat) (x1 : Int32) (x2 : Int32) (x3 : Int32) (x4 : Int32) (x5 : Int32) (x6 : Int32) (t0 : Int32) (S : pm_S)  (r : (Int32 × pm_S)) (h : F_M_trouble_119 N  x0 x1 x2 x3 x4 x5 x6 t0 S = some r) : pmE pG (pm_rel pG sp (d + 3)) mi_M_trouble 119 [some (.ref x0), some (.int x1), some (.int x2), some (.int x3), some (.int x4), some (.int x5), some (.int x6), none, none] [.int t0] S (some (.int r.1), r.2) := by
  unfold F_M_trouble_119 at h
  refine pE_jump 2 (pc' := 123) (ls' := [some (.ref x0), some (.int x1), some (.int x2), some (.int x3), some (.int x4), some (.int x5), some (.int x6), some (.int t0), none]) (st' := [.int t0]) (fun _ => rfl) ?_
  refine pE_br (¬ t0 = 0) rfl rfl (fun c29 => ?_) (fun c29 => ?_)
  · rw [if_neg c29] at h
    refine pE_jump 4 (pc' := 133) (ls' := [some (.ref x0), some (.int x1), some (.int x2), some (.int x3), some (.int x4), some (.int x5), some (.int x6), some (.int t0), none]) (st' := [.ref x0, .int (10 * x1)]) (fun _ => rfl) ?_
    obtain ⟨oq12, hq12, h⟩ := obind h
    cases oq12 with
    | none => cases h
    | some q12 =>
      try dsimp only at h
      refine pE_gfS rfl rfl hq12 ?_
      refine pE_jump 1 (pc' := 137) (ls' := [some (.ref x0), some (.int x1), some (.int x2), some (.int x3), some (.int x4), some (.int x5), some (.int x6), some (.int t0), none]) (st' := [.int x1, .ref q12, .int (10 * x1)]) (fun _ => rfl) ?_
      obtain ⟨v13, hv13, h⟩ := obind h
      refine pE_aI rfl rfl hv13 ?_
      refine pE_jump 3 (pc' := 142) (ls' := [some (.ref x0), some (.int x1), some (.int x2), some (.int x3), some (.int x4), some (.int x5), some (.int x6), some (.int t0), some (.int ((10 * x1) + v13))]) (st' := [.ref x0]) (fun _ => rfl) ?_
      obtain ⟨oq14, hq14, h⟩ := obind h
      cases oq14 with
      | none => cases h
      | some q14 =>
        try dsimp only at h
        refine pE_gfS rfl rfl hq14 ?_
        refine pE_jump 2 (pc' := 148) (ls' := [some (.ref x0), some (.int x1), some (.int x2), some (.int x3), some (.int x4), some (.int x5), some (.int x6), some (.int t0), some (.int ((10 * x1) + v13))]) (st' := [.int x2, .int ((10 * x1) + v13), .ref q14]) (fun _ => rfl) ?_
        obtain ⟨S15, hS15, h⟩ := obind h
        refine pE_sI rfl rfl hS15 ?_
        refine pE_jump 1 (pc' := 150) (ls' := [some (.ref x0), some (.int x1), some (.int x2), some (.int x3), some (.int x4), some (.int x5), some (.int x6), some (.int t0), some (.int ((10 * x1) + v13))]) (st' := [.ref x0]) (fun _ => rfl) ?_
        obtain ⟨oq16, hq16, h⟩ := obind h
        cases oq16 with
        | none => cases h
        | some q16 =>
          try dsimp only at h
          refine pE_gfS rfl rfl hq16 ?_
          refine pE_jump 2 (pc' := 156) (ls' := [some (.ref x0), some (.int x1), some (.int x2), some (.int x3), some (.int x4), some (.int x5), some (.int x6), some (.int t0), some (.int ((10 * x1) + v13))]) (st' := [.int x3, .int ((10 * x1) + v13), .ref q16]) (fun _ => rfl) ?_
          obtain ⟨S17, hS17, h⟩ := obind h
          refine pE_sI rfl rfl hS17 ?_
          refine pE_jump 1 (pc' := 158) (ls' := [some (.ref x0), some (.int x1), some (.int x2), some (.int x3), some (.int x4), some (.int x5), some (.int x6), some (.int t0), some (.int ((10 * x1) + v13))]) (st' := [.ref x0]) (fun _ => rfl) ?_
          obtain ⟨oq18, hq18, h⟩ := obind h
          cases oq18 with
          | none => cases h
          | some q18 =>
            try dsimp only at h
            refine pE_gfS rfl rfl hq18 ?_
            refine pE_jump 2 (pc' := 165) (ls' := [some (.ref x0), some (.int x1), some (.int x2), some (.int x3), some (.int x4), some (.int x5), some (.int x6), some (.int t0), some (.int ((10 * x1) + v13))]) (st' := [.int x4, .int ((10 * x1) + v13), .ref q18]) (fun _ => rfl) ?_
            obtain ⟨S19, hS19, h⟩ := obind h
            refine pE_sI rfl rfl hS19 ?_
            refine pE_jump 1 (pc' := 167) (ls' := [some (.ref x0), some (.int x1), some (.int x2), some (.int x3), some (.int x4), some (.int x5), some (.int x6), some (.int t0), some (.int ((10 * x1) + v13))]) (st' := [.ref x0]) (fun _ => rfl) ?_
            obtain ⟨oq20, hq20, h⟩ := obind h
            cases oq20 with
            | none => cases h
            | some q20 =>
              try dsimp only at h
              refine pE_gfS rfl rfl hq20 ?_
              refine pE_jump 2 (pc' := 174) (ls' := [some (.ref x0), some (.int x1), some (.int x2), some (.int x3), some (.int x4), some (.int x5), some (.int x6), some (.int t0), some (.int ((10 * x1) + v13))]) (st' := [.int x5, .int ((10 * x1) + v13), .ref q20]) (fun _ => rfl) ?_
              obtain ⟨S21, hS21, h⟩ := obind h
              refine pE_sI rfl rfl hS21 ?_
              refine pE_jump 1 (pc' := 176) (ls' := [some (.ref x0), some (.int x1), some (.int x2), some (.int x3), some (.int x4), some (.int x5), some (.int x6), some (.int t0), some (.int ((10 * x1) + v13))]) (st' := [.ref x0]) (fun _ => rfl) ?_
              obtain ⟨oq22, hq22, h⟩ := obind h
              cases oq22 with
              | none => cases h
              | some q22 =>
                try dsimp only at h
                refine pE_gfS rfl rfl hq22 ?_
                refine pE_jump 2 (pc' := 183) (ls' := [some (.ref x0), some (.int x1), some (.int x2), some (.int x3), some (.int x4), some (.int x5), some (.int x6), some (.int t0), some (.int ((10 * x1) + v13))]) (st' := [.int x6, .int ((10 * x1) + v13), .ref q22]) (fun _ => rfl) ?_
                obtain ⟨S23, hS23, h⟩ := obind h
                refine pE_sI rfl rfl hS23 ?_
                refine pE_jump 1 (pc' := 185) (ls' := [some (.ref x0), some (.int x1), some (.int x2), some (.int x3), some (.int x4), some (.int x5), some (.int x6), some (.int t0), some (.int ((10 * x1) + v13))]) (st' := [.ref x0]) (fun _ => rfl) ?_
                obtain ⟨oq24, hq24, h⟩ := obind h
                cases oq24 with
                | none => cases h
                | some q24 =>
                  try dsimp only at h
                  refine pE_gfS rfl rfl hq24 ?_
                  refine pE_jump 2 (pc' := 190) (ls' := [some (.ref x0), some (.int x1), some (.int x2), some (.int x3), some (.int x4), some (.int x5), some (.int x6), some (.int t0), some (.int ((10 * x1) + v13))]) (st' := [.int x1, .ref q24, .int x1, .ref q24]) (fun _ => rfl) ?_
                  obtain ⟨v25, hv25, h⟩ := obind h
                  refine pE_aI rfl rfl hv25 ?_
                  refine pE_jump 2 (pc' := 193) (ls' := [some (.ref x0), some (.int x1), some (.int x2), some (.int x3), some (.int x4), some (.int x5), some (.int x6), some (.int t0), some (.int ((10 * x1) + v13))]) (st' := [.int (v25 + 1), .int x1, .ref q24]) (fun _ => rfl) ?_
                  obtain ⟨S26, hS26, h⟩ := obind h
                  refine pE_sI rfl rfl hS26 ?_
                  refine pE_jump 1 (pc' := 195) (ls' := [some (.ref x0), some (.int x1), some (.int x2), some (.int x3), some (.int x4), some (.int x5), some (.int x6), some (.int t0), some (.int ((10 * x1) + v13))]) (st' := [.ref x0]) (fun _ => rfl) ?_
                  obtain ⟨oq27, hq27, h⟩ := obind h
                  cases oq27 with
                  | none => cases h
                  | some q27 =>
                    try dsimp only at h
                    refine pE_gfS rfl rfl hq27 ?_
                    refine pE_jump 1 (pc' := 199) (ls' := [some (.ref x0), some (.int x1), some (.int x2), some (.int x3), some (.int x4), some (.int x5), some (.int x6), some (.int t0), some (.int ((10 * x1) + v13))]) (st' := [.int x1, .ref q27]) (fun _ => rfl) ?_
                    obtain ⟨v28, hv28, h⟩ := obind h
                    refine pE_aI rfl rfl hv28 ?_
                    refine pE_jump 2 (pc' := 202) (ls' := [some (.ref x0), some (.int x1), some (.int x2), some (.int x3), some (.int x4), some (.int x5), some (.int x6), some (.int t0), some (.int ((10 * x1) + v13))]) (st' := [.int (v28 - 1)]) (fun _ => rfl) ?_
                    cases h
                    exact pE_ret rfl rfl rfl
  · have c29 := Decidable.not_not.mp c29
    rw [if_pos c29] at h
    refine pE_jump 1 (pc' := 127) (ls' := [some (.ref x0), some (.int x1), some (.int x2), some (.int x3), some (.int x4), some (.int x5), some (.int x6), some (.int t0), none]) (st' := [.int (-1)]) (fun _ => rfl) ?_
    cases h
    exact pE_ret rfl rfl rfl
def F_M_trouble_118 (N : Nat)  (x0 : Nat) (x1 : Int32) (x2 : Int32) (x3 : Int32) (x4 : Int32) (x5 : Int32) (x6 : Int32) (S : pm_S) : Option (Int32 × pm_S) :=
    F_M_trouble_119 N x0 x1 x2 x3 x4 x5 x6 0 S
set_option maxHeartbeats 4000000 in
set_option maxRecDepth 20000 in
theorem f_M_trouble_118 (sp : pm_I → List Value → pm_S → pm_O → Prop) (d N : Nat)  (x0 : Nat) (x1 : Int32) (x2 : Int32) (x3 : Int32) (x4 : Int32) (x5 : Int32) (x6 : Int32) (S : pm_S)  (r : (Int32 × pm_S)) (h : F_M_trouble_118 N  x0 x1 x2 x3 x4 x5 x6 S = some r) : pmE pG (pm_rel pG sp (d + 3)) mi_M_trouble 118 [some (.ref x0), some (.int x1), some (.int x2), some (.int x3), some (.int x4), some (.int x5), some (.int x6), none, none] [] S (some (.int r.1), r.2) := by
  unfold F_M_trouble_118 at h
  refine pE_jump 1 (pc' := 119) (ls' := [some (.ref x0), some (.int x1), some (.int x2), some (.int x3), some (.int x4), some (.int x5), some (.int x6), none, none]) (st' := [.int 0]) (fun _ => rfl) ?_
  exact f_M_trouble_119 sp d N x0 x1 x2 x3 x4 x5 x6 0 S _ h
def F_M_trouble_114 (N : Nat)  (x0 : Nat) (x1 : Int32) (x2 : Int32) (x3 : Int32) (x4 : Int32) (x5 : Int32) (x6 : Int32) (S : pm_S) : Option (Int32 × pm_S) :=
    F_M_trouble_119 N x0 x1 x2 x3 x4 x5 x6 1 S
set_option maxHeartbeats 4000000 in
set_option maxRecDepth 20000 in
theorem f_M_trouble_114 (sp : pm_I → List Value → pm_S → pm_O → Prop) (d N : Nat)  (x0 : Nat) (x1 : Int32) (x2 : Int32) (x3 : Int32) (x4 : Int32) (x5 : Int32) (x6 : Int32) (S : pm_S)  (r : (Int32 × pm_S)) (h : F_M_trouble_114 N  x0 x1 x2 x3 x4 x5 x6 S = some r) : pmE pG (pm_rel pG sp (d + 3)) mi_M_trouble 114 [some (.ref x0), some (.int x1), some (.int x2), some (.int x3), some (.int x4), some (.int x5), some (.int x6), none, none] [] S (some (.int r.1), r.2) := by
  unfold F_M_trouble_114 at h
  refine pE_jump 2 (pc' := 119) (ls' := [some (.ref x0), some (.int x1), some (.int x2), some (.int x3), some (.int x4), some (.int x5), some (.int x6), none, none]) (st' := [.int 1]) (fun _ => rfl) ?_
  exact f_M_trouble_119 sp d N x0 x1 x2 x3 x4 x5 x6 1 S _ h
def F_M_trouble_90 (N : Nat)  (x0 : Nat) (x1 : Int32) (x2 : Int32) (x3 : Int32) (x4 : Int32) (x5 : Int32) (x6 : Int32) (S : pm_S) : Option (Int32 × pm_S) :=
    if x2 = 0 then
    F_M_trouble_114 N x0 x1 x2 x3 x4 x5 x6 S
    else
    ((oR S x0 11 11).bind fun oq32 => match oq32 with
    | none => none
    | some q32 =>
    (aI [0, 6] S q32 ((7 * x1) + x3)).bind fun v33 =>
    (F_M_isIn N S x6 0 v33).bind fun (v35, S34) =>
    if v35 = 0 then
    F_M_trouble_118 N x0 x1 x2 x3 x4 x5 x6 S34
    else
    F_M_trouble_114 N x0 x1 x2 x3 x4 x5 x6 S34)
set_option maxHeartbeats 4000000 in
set_option maxRecDepth 20000 in
theorem f_M_trouble_90 (sp : pm_I → List Value → pm_S → pm_O → Prop) (d N : Nat)  (x0 : Nat) (x1 : Int32) (x2 : Int32) (x3 : Int32) (x4 : Int32) (x5 : Int32) (x6 : Int32) (S : pm_S)  (r : (Int32 × pm_S)) (h : F_M_trouble_90 N  x0 x1 x2 x3 x4 x5 x6 S = some r) : pmE pG (pm_rel pG sp (d + 3)) mi_M_trouble 90 [some (.ref x0), some (.int x1), some (.int x2), some (.int x3), some (.int x4), some (.int x5), some (.int x6), none, none] [] S (some (.int r.1), r.2) := by
  unfold F_M_trouble_90 at h
  refine pE_jump 1 (pc' := 91) (ls' := [some (.ref x0), some (.int x1), some (.int x2), some (.int x3), some (.int x4), some (.int x5), some (.int x6), none, none]) (st' := [.int x2]) (fun _ => rfl) ?_
  refine pE_br (x2 = 0) rfl rfl (fun c37 => ?_) (fun c37 => ?_)
  · rw [if_pos c37] at h
    exact f_M_trouble_114 sp d N x0 x1 x2 x3 x4 x5 x6 S _ h
  · rw [if_neg c37] at h
    refine pE_jump 3 (pc' := 98) (ls' := [some (.ref x0), some (.int x1), some (.int x2), some (.int x3), some (.int x4), some (.int x5), some (.int x6), none, none]) (st' := [.ref x0, .int 0, .int x6]) (fun _ => rfl) ?_
    obtain ⟨oq32, hq32, h⟩ := obind h
    cases oq32 with
    | none => cases h
    | some q32 =>
      try dsimp only at h
      refine pE_gfS rfl rfl hq32 ?_
      refine pE_jump 5 (pc' := 107) (ls' := [some (.ref x0), some (.int x1), some (.int x2), some (.int x3), some (.int x4), some (.int x5), some (.int x6), none, none]) (st' := [.int ((7 * x1) + x3), .ref q32, .int 0, .int x6]) (fun _ => rfl) ?_
      obtain ⟨v33, hv33, h⟩ := obind h
      refine pE_aI rfl rfl hv33 ?_
      obtain ⟨⟨v35, S34⟩, hv35, h⟩ := obind h
      try dsimp only at h
      refine pE_is (Bs := [.int x6, .int 0, .int v33]) (st := []) rfl rfl rfl (Nat.le_of_ble_eq_true rfl) (Nat.le_of_ble_eq_true rfl) (f_M_isIn sp (d + 2) N S x6 0 v33 _ hv35) ?_
      refine pE_br (v35 = 0) rfl rfl (fun c36 => ?_) (fun c36 => ?_)
      · rw [if_pos c36] at h
        exact f_M_trouble_118 sp d N x0 x1 x2 x3 x4 x5 x6 S34 _ h
      · rw [if_neg c36] at h
        exact f_M_trouble_114 sp d N x0 x1 x2 x3 x4 x5 x6 S34 _ h
def F_M_trouble (N : Nat) (S : pm_S) (a : Nat) (p0 : Int32) (p1 : Int32) (p2 : Int32) (p3 : Int32) (p4 : Int32) (p5 : Int32) : Option (Int32 × pm_S) :=
    if rcv S a 11 = true then
    ((wF S a 11 0 .int (.int 0)).bind fun S1 =>
    (F_M_isPlan N S1 a p0).bind fun (v3, S2) =>
    if v3 = 0 then
    F_M_trouble_33 N S2
    else
    ((oR S2 a 11 20).bind fun oq4 => match oq4 with
    | none => none
    | some q4 =>
    (aI [0, 6] S2 q4 p0).bind fun v5 =>
    if v5 = 10 then
    F_M_trouble_33 N S2
    else
    ((F_M_isIn N S2 p1 0 3).bind fun (v7, S6) =>
    if v7 = 0 then
    F_M_trouble_33 N S6
    else
    (if p1 = 3 then
    ((oR S6 a 11 18).bind fun oq8 => match oq8 with
    | none => none
    | some q8 =>
    (aI [0, 6] S6 q8 p0).bind fun v9 =>
    (F_M_isIn N S6 p2 0 (v9 - 1)).bind fun (v11, S10) =>
    F_M_trouble_119 N a p0 p1 p2 p3 p4 p5 v11 S10)
    else
    ((F_M_isPair N S6 a p0 p2 p3).bind fun (v31, S30) =>
    if v31 = 0 then
    F_M_trouble_118 N a p0 p1 p2 p3 p4 p5 S30
    else
    (if p1 = 1 then
    F_M_trouble_90 N a p0 p1 p2 p3 p4 p5 S30
    else
    ((F_M_isPair N S30 a p0 p2 p4).bind fun (v39, S38) =>
    if v39 = 0 then
    F_M_trouble_118 N a p0 p1 p2 p3 p4 p5 S38
    else
    (if p3 = p4 then
    F_M_trouble_118 N a p0 p1 p2 p3 p4 p5 S38
    else
    F_M_trouble_90 N a p0 p1 p2 p3 p4 p5 S38))))))))
    else none
theorem g_M_trouble {N : Nat} {S : pm_S} {a : Nat} {p0 : Int32} {p1 : Int32} {p2 : Int32} {p3 : Int32} {p4 : Int32} {p5 : Int32} {r : (Int32 × pm_S)} (h : F_M_trouble N S a p0 p1 p2 p3 p4 p5 = some r) : rcv S a 11 = true := by
  unfold F_M_trouble at h
  by_cases c : rcv S a 11 = true
  · exact c
  · rw [if_neg c] at h; cases h
set_option maxHeartbeats 4000000 in
set_option maxRecDepth 20000 in
theorem f_M_trouble (sp : pm_I → List Value → pm_S → pm_O → Prop) (d N : Nat) (S : pm_S) (a : Nat) (p0 : Int32) (p1 : Int32) (p2 : Int32) (p3 : Int32) (p4 : Int32) (p5 : Int32) (r : (Int32 × pm_S)) (h : F_M_trouble N S a p0 p1 p2 p3 p4 p5 = some r) : pm_rel pG sp (d + 4) mi_M_trouble [.ref a, .int p0, .int p1, .int p2, .int p3, .int p4, .int p5] S (some (.int r.1), r.2) := by
  have hg := g_M_trouble h
  unfold F_M_trouble at h
  rw [if_pos hg] at h
  refine pE_rel (d := d + 3) ?_
  show pmE pG _ mi_M_trouble 0 [some (.ref a), some (.int p0), some (.int p1), some (.int p2), some (.int p3), some (.int p4), some (.int p5), none, none] [] S _
  refine pE_jump 2 (pc' := 2) (ls' := [some (.ref a), some (.int p0), some (.int p1), some (.int p2), some (.int p3), some (.int p4), some (.int p5), none, none]) (st' := [.int 0, .ref a]) (fun _ => rfl) ?_
  obtain ⟨S1, hS1, h⟩ := obind h
  refine pE_pf rfl rfl rfl hS1 ?_
  refine pE_jump 2 (pc' := 7) (ls' := [some (.ref a), some (.int p0), some (.int p1), some (.int p2), some (.int p3), some (.int p4), some (.int p5), none, none]) (st' := [.int p0, .ref a]) (fun _ => rfl) ?_
  obtain ⟨⟨v3, S2⟩, hv3, h⟩ := obind h
  try dsimp only at h
  refine pE_iv (Bs := [.int p0]) (st := []) 1 rfl (Or.inl ⟨rfl, rfl⟩) rfl rfl (Nat.le_of_ble_eq_true rfl) (Nat.le_of_ble_eq_true rfl) (g_M_isPlan hv3) (f_M_isPlan sp (d + 2) N S1 a p0 _ hv3) ?_
  refine pE_br (v3 = 0) rfl rfl (fun c47 => ?_) (fun c47 => ?_)
  · rw [if_pos c47] at h
    refine pE_weak [none, none, none, none, none, none, none, none, none] trivial ?_
    exact f_M_trouble_33 sp d N S2 _ h
  · rw [if_neg c47] at h
    refine pE_jump 1 (pc' := 14) (ls' := [some (.ref a), some (.int p0), some (.int p1), some (.int p2), some (.int p3), some (.int p4), some (.int p5), none, none]) (st' := [.ref a]) (fun _ => rfl) ?_
    obtain ⟨oq4, hq4, h⟩ := obind h
    cases oq4 with
    | none => cases h
    | some q4 =>
      try dsimp only at h
      refine pE_gfS rfl rfl hq4 ?_
      refine pE_jump 1 (pc' := 18) (ls' := [some (.ref a), some (.int p0), some (.int p1), some (.int p2), some (.int p3), some (.int p4), some (.int p5), none, none]) (st' := [.int p0, .ref q4]) (fun _ => rfl) ?_
      obtain ⟨v5, hv5, h⟩ := obind h
      refine pE_aI rfl rfl hv5 ?_
      refine pE_jump 1 (pc' := 21) (ls' := [some (.ref a), some (.int p0), some (.int p1), some (.int p2), some (.int p3), some (.int p4), some (.int p5), none, none]) (st' := [.int 10, .int v5]) (fun _ => rfl) ?_
      refine pE_br (v5 = 10) rfl rfl (fun c46 => ?_) (fun c46 => ?_)
      · rw [if_pos c46] at h
        refine pE_weak [none, none, none, none, none, none, none, none, none] trivial ?_
        exact f_M_trouble_33 sp d N S2 _ h
      · rw [if_neg c46] at h
        refine pE_jump 3 (pc' := 27) (ls' := [some (.ref a), some (.int p0), some (.int p1), some (.int p2), some (.int p3), some (.int p4), some (.int p5), none, none]) (st' := [.int 3, .int 0, .int p1]) (fun _ => rfl) ?_
        obtain ⟨⟨v7, S6⟩, hv7, h⟩ := obind h
        try dsimp only at h
        refine pE_is (Bs := [.int p1, .int 0, .int 3]) (st := []) rfl rfl rfl (Nat.le_of_ble_eq_true rfl) (Nat.le_of_ble_eq_true rfl) (f_M_isIn sp (d + 2) N S2 p1 0 3 _ hv7) ?_
        refine pE_br (¬ v7 = 0) rfl rfl (fun c45 => ?_) (fun c45 => ?_)
        · rw [if_neg c45] at h
          refine pE_jump 2 (pc' := 37) (ls' := [some (.ref a), some (.int p0), some (.int p1), some (.int p2), some (.int p3), some (.int p4), some (.int p5), none, none]) (st' := [.int 3, .int p1]) (fun _ => rfl) ?_
          refine pE_br (¬ p1 = 3) rfl rfl (fun c44 => ?_) (fun c44 => ?_)
          · rw [if_neg c44] at h
            refine pE_jump 4 (pc' := 61) (ls' := [some (.ref a), some (.int p0), some (.int p1), some (.int p2), some (.int p3), some (.int p4), some (.int p5), none, none]) (st' := [.int p3, .int p2, .int p0, .ref a]) (fun _ => rfl) ?_
            obtain ⟨⟨v31, S30⟩, hv31, h⟩ := obind h
            try dsimp only at h
            refine pE_iv (Bs := [.int p0, .int p2, .int p3]) (st := []) 1 rfl (Or.inl ⟨rfl, rfl⟩) rfl rfl (Nat.le_of_ble_eq_true rfl) (Nat.le_of_ble_eq_true rfl) (g_M_isPair hv31) (f_M_isPair sp d N S6 a p0 p2 p3 _ hv31) ?_
            refine pE_br (v31 = 0) rfl rfl (fun c43 => ?_) (fun c43 => ?_)
            · rw [if_pos c43] at h
              exact f_M_trouble_118 sp d N a p0 p1 p2 p3 p4 p5 S30 _ h
            · rw [if_neg c43] at h
              refine pE_jump 2 (pc' := 69) (ls' := [some (.ref a), some (.int p0), some (.int p1), some (.int p2), some (.int p3), some (.int p4), some (.int p5), none, none]) (st' := [.int 1, .int p1]) (fun _ => rfl) ?_
              refine pE_br (p1 = 1) rfl rfl (fun c42 => ?_) (fun c42 => ?_)
              · rw [if_pos c42] at h
                exact f_M_trouble_90 sp d N a p0 p1 p2 p3 p4 p5 S30 _ h
              · rw [if_neg c42] at h
                refine pE_jump 4 (pc' := 77) (ls' := [some (.ref a), some (.int p0), some (.int p1), some (.int p2), some (.int p3), some (.int p4), some (.int p5), none, none]) (st' := [.int p4, .int p2, .int p0, .ref a]) (fun _ => rfl) ?_
                obtain ⟨⟨v39, S38⟩, hv39, h⟩ := obind h
                try dsimp only at h
                refine pE_iv (Bs := [.int p0, .int p2, .int p4]) (st := []) 1 rfl (Or.inl ⟨rfl, rfl⟩) rfl rfl (Nat.le_of_ble_eq_true rfl) (Nat.le_of_ble_eq_true rfl) (g_M_isPair hv39) (f_M_isPair sp d N S30 a p0 p2 p4 _ hv39) ?_
                refine pE_br (v39 = 0) rfl rfl (fun c41 => ?_) (fun c41 => ?_)
                · rw [if_pos c41] at h
                  exact f_M_trouble_118 sp d N a p0 p1 p2 p3 p4 p5 S38 _ h
                · rw [if_neg c41] at h
                  refine pE_jump 2 (pc' := 87) (ls' := [some (.ref a), some (.int p0), some (.int p1), some (.int p2), some (.int p3), some (.int p4), some (.int p5), none, none]) (st' := [.int p4, .int p3]) (fun _ => rfl) ?_
                  refine pE_br (p3 = p4) rfl rfl (fun c40 => ?_) (fun c40 => ?_)
                  · rw [if_pos c40] at h
                    exact f_M_trouble_118 sp d N a p0 p1 p2 p3 p4 p5 S38 _ h
                  · rw [if_neg c40] at h
                    exact f_M_trouble_90 sp d N a p0 p1 p2 p3 p4 p5 S38 _ h
          · have c44 := Decidable.not_not.mp c44
            rw [if_pos c44] at h
            refine pE_jump 3 (pc' := 43) (ls' := [some (.ref a), some (.int p0), some (.int p1), some (.int p2), some (.int p3), some (.int p4), some (.int p5), none, none]) (st' := [.ref a, .int 0, .int p2]) (fun _ => rfl) ?_
            obtain ⟨oq8, hq8, h⟩ := obind h
            cases oq8 with
            | none => cases h
            | some q8 =>
              try dsimp only at h
              refine pE_gfS rfl rfl hq8 ?_
              refine pE_jump 1 (pc' := 47) (ls' := [some (.ref a), some (.int p0), some (.int p1), some (.int p2), some (.int p3), some (.int p4), some (.int p5), none, none]) (st' := [.int p0, .ref q8, .int 0, .int p2]) (fun _ => rfl) ?_
              obtain ⟨v9, hv9, h⟩ := obind h
              refine pE_aI rfl rfl hv9 ?_
              refine pE_jump 2 (pc' := 50) (ls' := [some (.ref a), some (.int p0), some (.int p1), some (.int p2), some (.int p3), some (.int p4), some (.int p5), none, none]) (st' := [.int (v9 - 1), .int 0, .int p2]) (fun _ => rfl) ?_
              obtain ⟨⟨v11, S10⟩, hv11, h⟩ := obind h
              try dsimp only at h
              refine pE_is (Bs := [.int p2, .int 0, .int (v9 - 1)]) (st := []) rfl rfl rfl (Nat.le_of_ble_eq_true rfl) (Nat.le_of_ble_eq_true rfl) (f_M_isIn sp (d + 2) N S6 p2 0 (v9 - 1) _ hv11) ?_
              refine pE_jump 1 (pc' := 119) (ls' := [some (.ref a), some (.int p0), some (.int p1), some (.int p2), some (.int p3), some (.int p4), some (.int p5), none, none]) (st' := [.int v11]) (fun _ => rfl) ?_
              exact f_M_trouble_119 sp d N a p0 p1 p2 p3 p4 p5 v11 S10 _ h
        · have c45 := Decidable.not_not.mp c45
          rw [if_pos c45] at h
          refine pE_weak [none, none, none, none, none, none, none, none, none] trivial ?_
          exact f_M_trouble_33 sp d N S6 _ h
def F_M_troubles_23 (N : Nat)  (t0 : Int32) (S : pm_S) : Option (Int32 × pm_S) :=
    some (t0, S)
set_option maxHeartbeats 4000000 in
set_option maxRecDepth 20000 in
theorem f_M_troubles_23 (sp : pm_I → List Value → pm_S → pm_O → Prop) (d N : Nat)  (t0 : Int32) (S : pm_S)  (r : (Int32 × pm_S)) (h : F_M_troubles_23 N  t0 S = some r) : pmE pG (pm_rel pG sp (d + 1)) mi_M_troubles 23 [none, none] [.int t0] S (some (.int r.1), r.2) := by
  unfold F_M_troubles_23 at h
  cases h
  exact pE_ret rfl rfl rfl
def F_M_troubles (N : Nat) (S : pm_S) (a : Nat) (p0 : Int32) : Option (Int32 × pm_S) :=
    if rcv S a 11 = true then
    ((wF S a 11 0 .int (.int 0)).bind fun S1 =>
    (F_M_isPlan N S1 a p0).bind fun (v3, S2) =>
    if v3 = 0 then
    F_M_troubles_23 N (-1) S2
    else
    ((oR S2 a 11 20).bind fun oq4 => match oq4 with
    | none => none
    | some q4 =>
    (aI [0, 6] S2 q4 p0).bind fun v5 =>
    F_M_troubles_23 N v5 S2))
    else none
theorem g_M_troubles {N : Nat} {S : pm_S} {a : Nat} {p0 : Int32} {r : (Int32 × pm_S)} (h : F_M_troubles N S a p0 = some r) : rcv S a 11 = true := by
  unfold F_M_troubles at h
  by_cases c : rcv S a 11 = true
  · exact c
  · rw [if_neg c] at h; cases h
set_option maxHeartbeats 4000000 in
set_option maxRecDepth 20000 in
theorem f_M_troubles (sp : pm_I → List Value → pm_S → pm_O → Prop) (d N : Nat) (S : pm_S) (a : Nat) (p0 : Int32) (r : (Int32 × pm_S)) (h : F_M_troubles N S a p0 = some r) : pm_rel pG sp (d + 2) mi_M_troubles [.ref a, .int p0] S (some (.int r.1), r.2) := by
  have hg := g_M_troubles h
  unfold F_M_troubles at h
  rw [if_pos hg] at h
  refine pE_rel (d := d + 1) ?_
  show pmE pG _ mi_M_troubles 0 [some (.ref a), some (.int p0)] [] S _
  refine pE_jump 2 (pc' := 2) (ls' := [some (.ref a), some (.int p0)]) (st' := [.int 0, .ref a]) (fun _ => rfl) ?_
  obtain ⟨S1, hS1, h⟩ := obind h
  refine pE_pf rfl rfl rfl hS1 ?_
  refine pE_jump 2 (pc' := 7) (ls' := [some (.ref a), some (.int p0)]) (st' := [.int p0, .ref a]) (fun _ => rfl) ?_
  obtain ⟨⟨v3, S2⟩, hv3, h⟩ := obind h
  try dsimp only at h
  refine pE_iv (Bs := [.int p0]) (st := []) 1 rfl (Or.inl ⟨rfl, rfl⟩) rfl rfl (Nat.le_of_ble_eq_true rfl) (Nat.le_of_ble_eq_true rfl) (g_M_isPlan hv3) (f_M_isPlan sp d N S1 a p0 _ hv3) ?_
  refine pE_br (v3 = 0) rfl rfl (fun c6 => ?_) (fun c6 => ?_)
  · rw [if_pos c6] at h
    refine pE_jump 1 (pc' := 23) (ls' := [some (.ref a), some (.int p0)]) (st' := [.int (-1)]) (fun _ => rfl) ?_
    refine pE_weak [none, none] trivial ?_
    exact f_M_troubles_23 sp d N (-1) S2 _ h
  · rw [if_neg c6] at h
    refine pE_jump 1 (pc' := 14) (ls' := [some (.ref a), some (.int p0)]) (st' := [.ref a]) (fun _ => rfl) ?_
    obtain ⟨oq4, hq4, h⟩ := obind h
    cases oq4 with
    | none => cases h
    | some q4 =>
      try dsimp only at h
      refine pE_gfS rfl rfl hq4 ?_
      refine pE_jump 1 (pc' := 18) (ls' := [some (.ref a), some (.int p0)]) (st' := [.int p0, .ref q4]) (fun _ => rfl) ?_
      obtain ⟨v5, hv5, h⟩ := obind h
      refine pE_aI rfl rfl hv5 ?_
      refine pE_jump 1 (pc' := 23) (ls' := [some (.ref a), some (.int p0)]) (st' := [.int v5]) (fun _ => rfl) ?_
      refine pE_weak [none, none] trivial ?_
      exact f_M_troubles_23 sp d N v5 S2 _ h
def F_M_isWorld_29 (N : Nat)  (t0 : Int32) (S : pm_S) : Option (Int32 × pm_S) :=
    if t0 = 0 ∨ t0 = 1 then some (t0, S) else none
set_option maxHeartbeats 4000000 in
set_option maxRecDepth 20000 in
theorem f_M_isWorld_29 (sp : pm_I → List Value → pm_S → pm_O → Prop) (d N : Nat)  (t0 : Int32) (S : pm_S)  (r : (Int32 × pm_S)) (h : F_M_isWorld_29 N  t0 S = some r) : pmE pG (pm_rel pG sp (d + 1)) mi_M_isWorld 29 [none, none, none] [.int t0] S (some (.int r.1), r.2) := by
  unfold F_M_isWorld_29 at h
  by_cases c3 : t0 = 0 ∨ t0 = 1
  · rw [if_pos c3] at h
    cases h
    exact pE_ret rfl (if_pos c3) rfl
  · rw [if_neg c3] at h
    cases h
def F_M_isWorld_28 (N : Nat)   (S : pm_S) : Option (Int32 × pm_S) :=
    F_M_isWorld_29 N 0 S
set_option maxHeartbeats 4000000 in
set_option maxRecDepth 20000 in
theorem f_M_isWorld_28 (sp : pm_I → List Value → pm_S → pm_O → Prop) (d N : Nat)   (S : pm_S)  (r : (Int32 × pm_S)) (h : F_M_isWorld_28 N   S = some r) : pmE pG (pm_rel pG sp (d + 1)) mi_M_isWorld 28 [none, none, none] [] S (some (.int r.1), r.2) := by
  unfold F_M_isWorld_28 at h
  refine pE_jump 1 (pc' := 29) (ls' := [none, none, none]) (st' := [.int 0]) (fun _ => rfl) ?_
  exact f_M_isWorld_29 sp d N 0 S _ h
def F_M_isWorld (N : Nat) (S : pm_S) (a : Nat) (p0 : Int32) (p1 : Int32) : Option (Int32 × pm_S) :=
    if rcv S a 11 = true then
    ((F_M_isPlan N S a p0).bind fun (v2, S1) =>
    if v2 = 0 then
    F_M_isWorld_28 N S1
    else
    (if p1 < 0 then
    F_M_isWorld_28 N S1
    else
    ((oR S1 a 11 20).bind fun oq4 => match oq4 with
    | none => none
    | some q4 =>
    (aI [0, 6] S1 q4 p0).bind fun v5 =>
    if (1 <<< (v5 &&& 31)) ≤ p1 then
    F_M_isWorld_28 N S1
    else
    F_M_isWorld_29 N 1 S1)))
    else none
theorem g_M_isWorld {N : Nat} {S : pm_S} {a : Nat} {p0 : Int32} {p1 : Int32} {r : (Int32 × pm_S)} (h : F_M_isWorld N S a p0 p1 = some r) : rcv S a 11 = true := by
  unfold F_M_isWorld at h
  by_cases c : rcv S a 11 = true
  · exact c
  · rw [if_neg c] at h; cases h
set_option maxHeartbeats 4000000 in
set_option maxRecDepth 20000 in
theorem f_M_isWorld (sp : pm_I → List Value → pm_S → pm_O → Prop) (d N : Nat) (S : pm_S) (a : Nat) (p0 : Int32) (p1 : Int32) (r : (Int32 × pm_S)) (h : F_M_isWorld N S a p0 p1 = some r) : pm_rel pG sp (d + 2) mi_M_isWorld [.ref a, .int p0, .int p1] S (some (.int r.1), r.2) := by
  have hg := g_M_isWorld h
  unfold F_M_isWorld at h
  rw [if_pos hg] at h
  refine pE_rel (d := d + 1) ?_
  show pmE pG _ mi_M_isWorld 0 [some (.ref a), some (.int p0), some (.int p1)] [] S _
  refine pE_jump 2 (pc' := 2) (ls' := [some (.ref a), some (.int p0), some (.int p1)]) (st' := [.int p0, .ref a]) (fun _ => rfl) ?_
  obtain ⟨⟨v2, S1⟩, hv2, h⟩ := obind h
  try dsimp only at h
  refine pE_iv (Bs := [.int p0]) (st := []) 1 rfl (Or.inl ⟨rfl, rfl⟩) rfl rfl (Nat.le_of_ble_eq_true rfl) (Nat.le_of_ble_eq_true rfl) (g_M_isPlan hv2) (f_M_isPlan sp d N S a p0 _ hv2) ?_
  refine pE_br (v2 = 0) rfl rfl (fun c8 => ?_) (fun c8 => ?_)
  · rw [if_pos c8] at h
    refine pE_weak [none, none, none] trivial ?_
    exact f_M_isWorld_28 sp d N S1 _ h
  · rw [if_neg c8] at h
    refine pE_jump 1 (pc' := 9) (ls' := [some (.ref a), some (.int p0), some (.int p1)]) (st' := [.int p1]) (fun _ => rfl) ?_
    refine pE_br (p1 < 0) rfl rfl (fun c7 => ?_) (fun c7 => ?_)
    · rw [if_pos c7] at h
      refine pE_weak [none, none, none] trivial ?_
      exact f_M_isWorld_28 sp d N S1 _ h
    · rw [if_neg c7] at h
      refine pE_jump 3 (pc' := 15) (ls' := [some (.ref a), some (.int p0), some (.int p1)]) (st' := [.ref a, .int 1, .int p1]) (fun _ => rfl) ?_
      obtain ⟨oq4, hq4, h⟩ := obind h
      cases oq4 with
      | none => cases h
      | some q4 =>
        try dsimp only at h
        refine pE_gfS rfl rfl hq4 ?_
        refine pE_jump 1 (pc' := 19) (ls' := [some (.ref a), some (.int p0), some (.int p1)]) (st' := [.int p0, .ref q4, .int 1, .int p1]) (fun _ => rfl) ?_
        obtain ⟨v5, hv5, h⟩ := obind h
        refine pE_aI rfl rfl hv5 ?_
        refine pE_jump 1 (pc' := 21) (ls' := [some (.ref a), some (.int p0), some (.int p1)]) (st' := [.int (1 <<< (v5 &&& 31)), .int p1]) (fun _ => rfl) ?_
        refine pE_br ((1 <<< (v5 &&& 31)) ≤ p1) rfl rfl (fun c6 => ?_) (fun c6 => ?_)
        · rw [if_pos c6] at h
          refine pE_weak [none, none, none] trivial ?_
          exact f_M_isWorld_28 sp d N S1 _ h
        · rw [if_neg c6] at h
          refine pE_jump 2 (pc' := 29) (ls' := [some (.ref a), some (.int p0), some (.int p1)]) (st' := [.int 1]) (fun _ => rfl) ?_
          refine pE_weak [none, none, none] trivial ?_
          exact f_M_isWorld_29 sp d N 1 S1 _ h
def F_M_isEnd (N : Nat) (S : pm_S) (p0 : Int32) : Option (Int32 × pm_S) :=
    (F_M_isIn N S p0 0 1).bind fun (v2, S1) =>
    if v2 = 0 ∨ v2 = 1 then some (v2, S1) else none
set_option maxHeartbeats 4000000 in
set_option maxRecDepth 20000 in
theorem f_M_isEnd (sp : pm_I → List Value → pm_S → pm_O → Prop) (d N : Nat) (S : pm_S) (p0 : Int32) (r : (Int32 × pm_S)) (h : F_M_isEnd N S p0 = some r) : pm_rel pG sp (d + 2) mi_M_isEnd [.int p0] S (some (.int r.1), r.2) := by
  unfold F_M_isEnd at h
  refine pE_rel (d := d + 1) ?_
  show pmE pG _ mi_M_isEnd 0 [some (.int p0)] [] S _
  refine pE_jump 3 (pc' := 3) (ls' := [some (.int p0)]) (st' := [.int 1, .int 0, .int p0]) (fun _ => rfl) ?_
  obtain ⟨⟨v2, S1⟩, hv2, h⟩ := obind h
  try dsimp only at h
  refine pE_is (Bs := [.int p0, .int 0, .int 1]) (st := []) rfl rfl rfl (Nat.le_of_ble_eq_true rfl) (Nat.le_of_ble_eq_true rfl) (f_M_isIn sp d N S p0 0 1 _ hv2) ?_
  by_cases c3 : v2 = 0 ∨ v2 = 1
  · rw [if_pos c3] at h
    cases h
    exact pE_ret rfl (if_pos c3) rfl
  · rw [if_neg c3] at h
    cases h
def F_M_isSo_17 (N : Nat)  (t0 : Int32) (S : pm_S) : Option (Int32 × pm_S) :=
    if t0 = 0 ∨ t0 = 1 then some (t0, S) else none
set_option maxHeartbeats 4000000 in
set_option maxRecDepth 20000 in
theorem f_M_isSo_17 (sp : pm_I → List Value → pm_S → pm_O → Prop) (d N : Nat)  (t0 : Int32) (S : pm_S)  (r : (Int32 × pm_S)) (h : F_M_isSo_17 N  t0 S = some r) : pmE pG (pm_rel pG sp (d + 0)) mi_M_isSo 17 [none, none] [.int t0] S (some (.int r.1), r.2) := by
  unfold F_M_isSo_17 at h
  by_cases c2 : t0 = 0 ∨ t0 = 1
  · rw [if_pos c2] at h
    cases h
    exact pE_ret rfl (if_pos c2) rfl
  · rw [if_neg c2] at h
    cases h
def F_M_isSo (N : Nat) (S : pm_S) (a : Nat) (p0 : Int32) : Option (Int32 × pm_S) :=
    if rcv S a 11 = true then
    ((oI S a 11 30).bind fun v1 =>
    if ((v1 >>> (p0 &&& 31)) &&& 1) = 1 then
    F_M_isSo_17 N 1 S
    else
    F_M_isSo_17 N 0 S)
    else none
theorem g_M_isSo {N : Nat} {S : pm_S} {a : Nat} {p0 : Int32} {r : (Int32 × pm_S)} (h : F_M_isSo N S a p0 = some r) : rcv S a 11 = true := by
  unfold F_M_isSo at h
  by_cases c : rcv S a 11 = true
  · exact c
  · rw [if_neg c] at h; cases h
set_option maxHeartbeats 4000000 in
set_option maxRecDepth 20000 in
theorem f_M_isSo (sp : pm_I → List Value → pm_S → pm_O → Prop) (d N : Nat) (S : pm_S) (a : Nat) (p0 : Int32) (r : (Int32 × pm_S)) (h : F_M_isSo N S a p0 = some r) : pm_rel pG sp (d + 1) mi_M_isSo [.ref a, .int p0] S (some (.int r.1), r.2) := by
  have hg := g_M_isSo h
  unfold F_M_isSo at h
  rw [if_pos hg] at h
  refine pE_rel (d := d + 0) ?_
  show pmE pG _ mi_M_isSo 0 [some (.ref a), some (.int p0)] [] S _
  refine pE_jump 1 (pc' := 1) (ls' := [some (.ref a), some (.int p0)]) (st' := [.ref a]) (fun _ => rfl) ?_
  obtain ⟨v1, hv1, h⟩ := obind h
  refine pE_gfI rfl rfl hv1 ?_
  refine pE_jump 5 (pc' := 9) (ls' := [some (.ref a), some (.int p0)]) (st' := [.int 1, .int ((v1 >>> (p0 &&& 31)) &&& 1)]) (fun _ => rfl) ?_
  refine pE_br (¬ ((v1 >>> (p0 &&& 31)) &&& 1) = 1) rfl rfl (fun c3 => ?_) (fun c3 => ?_)
  · rw [if_neg c3] at h
    refine pE_jump 1 (pc' := 17) (ls' := [some (.ref a), some (.int p0)]) (st' := [.int 0]) (fun _ => rfl) ?_
    refine pE_weak [none, none] trivial ?_
    exact f_M_isSo_17 sp d N 0 S _ h
  · have c3 := Decidable.not_not.mp c3
    rw [if_pos c3] at h
    refine pE_jump 2 (pc' := 17) (ls' := [some (.ref a), some (.int p0)]) (st' := [.int 1]) (fun _ => rfl) ?_
    refine pE_weak [none, none] trivial ?_
    exact f_M_isSo_17 sp d N 1 S _ h
def F_M_isUndone_67 (N : Nat)   (S : pm_S) : Option (Int32 × pm_S) :=
    some (0, S)
set_option maxHeartbeats 4000000 in
set_option maxRecDepth 20000 in
theorem f_M_isUndone_67 (sp : pm_I → List Value → pm_S → pm_O → Prop) (d N : Nat)   (S : pm_S)  (r : (Int32 × pm_S)) (h : F_M_isUndone_67 N   S = some r) : pmE pG (pm_rel pG sp (d + 1)) mi_M_isUndone 67 [none, none, none] [] S (some (.int r.1), r.2) := by
  unfold F_M_isUndone_67 at h
  refine pE_jump 1 (pc' := 68) (ls' := [none, none, none]) (st' := [.int 0]) (fun _ => rfl) ?_
  cases h
  exact pE_ret rfl rfl rfl
def F_M_isUndone_61 (N : Nat) (rec2 : Int32 → pm_S → Option (Int32 × pm_S)) (x0 : Nat) (x1 : Int32) (x2 : Int32) (S : pm_S) : Option (Int32 × pm_S) :=
    rec2 (x2 + 1) S
set_option maxHeartbeats 4000000 in
set_option maxRecDepth 20000 in
theorem f_M_isUndone_61 (sp : pm_I → List Value → pm_S → pm_O → Prop) (d N : Nat) (rec2 : Int32 → pm_S → Option (Int32 × pm_S)) (x0 : Nat) (x1 : Int32) (x2 : Int32) (S : pm_S) (hrec2 : ∀ (y1 : Int32) (U : pm_S) (r : (Int32 × pm_S)), rec2 y1 U = some r → pmE pG (pm_rel pG sp (d + 1)) mi_M_isUndone 2 [some (.ref x0), some (.int x1), some (.int y1)] [] U (some (.int r.1), r.2)) (r : (Int32 × pm_S)) (h : F_M_isUndone_61 N rec2 x0 x1 x2 S = some r) : pmE pG (pm_rel pG sp (d + 1)) mi_M_isUndone 61 [some (.ref x0), some (.int x1), some (.int x2)] [] S (some (.int r.1), r.2) := by
  unfold F_M_isUndone_61 at h
  refine pE_jump 2 (pc' := 2) (ls' := [some (.ref x0), some (.int x1), some (.int (x2 + 1))]) (st' := []) (fun _ => rfl) ?_
  exact hrec2 (x2 + 1) S _ h
def F_M_isUndone_59 (N : Nat)   (S : pm_S) : Option (Int32 × pm_S) :=
    some (1, S)
set_option maxHeartbeats 4000000 in
set_option maxRecDepth 20000 in
theorem f_M_isUndone_59 (sp : pm_I → List Value → pm_S → pm_O → Prop) (d N : Nat)   (S : pm_S)  (r : (Int32 × pm_S)) (h : F_M_isUndone_59 N   S = some r) : pmE pG (pm_rel pG sp (d + 1)) mi_M_isUndone 59 [none, none, none] [] S (some (.int r.1), r.2) := by
  unfold F_M_isUndone_59 at h
  refine pE_jump 1 (pc' := 60) (ls' := [none, none, none]) (st' := [.int 1]) (fun _ => rfl) ?_
  cases h
  exact pE_ret rfl rfl rfl
def B_M_isUndone_2 (N : Nat)  (rec2 : Int32 → pm_S → Option (Int32 × pm_S)) (x0 : Nat) (x1 : Int32) (x2 : Int32) (S : pm_S) : Option (Int32 × pm_S) :=
    (oR S x0 11 20).bind fun oq1 => match oq1 with
    | none => none
    | some q1 =>
    (oI S x0 11 29).bind fun v3 =>
    (aI [0, 6] S q1 v3).bind fun v4 =>
    if v4 ≤ x2 then
    F_M_isUndone_67 N S
    else
    ((F_M_isSo N S x0 x2).bind fun (v6, S5) =>
    if v6 = 0 then
    F_M_isUndone_61 N rec2 x0 x1 x2 S5
    else
    ((oR S5 x0 11 21).bind fun oq7 => match oq7 with
    | none => none
    | some q7 =>
    (oI S5 x0 11 29).bind fun v9 =>
    (aI [0, 6] S5 q7 ((10 * v9) + x2)).bind fun v10 =>
    if v10 = 3 then
    ((oR S5 x0 11 22).bind fun oq11 => match oq11 with
    | none => none
    | some q11 =>
    (oI S5 x0 11 29).bind fun v13 =>
    (aI [0, 6] S5 q11 ((10 * v13) + x2)).bind fun v14 =>
    if v14 = x1 then
    F_M_isUndone_59 N S5
    else
    F_M_isUndone_61 N rec2 x0 x1 x2 S5)
    else
    F_M_isUndone_61 N rec2 x0 x1 x2 S5))
def F_M_isUndone_2 (N : Nat)  (x0 : Nat) (x1 : Int32) : Nat → Int32 → pm_S → Option (Int32 × pm_S)
  | 0 => fun _ _ => none
  | n + 1 => fun x2 S => B_M_isUndone_2 N  (F_M_isUndone_2 N  x0 x1 n) x0 x1 x2 S
set_option maxHeartbeats 4000000 in
set_option maxRecDepth 20000 in
theorem f_M_isUndone_2 (sp : pm_I → List Value → pm_S → pm_O → Prop) (d N : Nat)  (x0 : Nat) (x1 : Int32)  : ∀ (n : Nat) (x2 : Int32) (S : pm_S) (r : (Int32 × pm_S)), F_M_isUndone_2 N  x0 x1 n x2 S = some r → pmE pG (pm_rel pG sp (d + 1)) mi_M_isUndone 2 [some (.ref x0), some (.int x1), some (.int x2)] [] S (some (.int r.1), r.2) := by
  intro n
  induction n with
  | zero =>
    intro x2 S r h
    cases h
  | succ n ih =>
    intro x2 S r h
    replace h : B_M_isUndone_2 N  (F_M_isUndone_2 N  x0 x1 n) x0 x1 x2 S = some r := h
    have hrec2 := ih
    generalize F_M_isUndone_2 N  x0 x1 n = rec2 at h hrec2
    unfold B_M_isUndone_2 at h
    refine pE_jump 2 (pc' := 4) (ls' := [some (.ref x0), some (.int x1), some (.int x2)]) (st' := [.ref x0, .int x2]) (fun _ => rfl) ?_
    obtain ⟨oq1, hq1, h⟩ := obind h
    cases oq1 with
    | none => cases h
    | some q1 =>
      try dsimp only at h
      refine pE_gfS rfl rfl hq1 ?_
      refine pE_jump 1 (pc' := 8) (ls' := [some (.ref x0), some (.int x1), some (.int x2)]) (st' := [.ref x0, .ref q1, .int x2]) (fun _ => rfl) ?_
      obtain ⟨v3, hv3, h⟩ := obind h
      refine pE_gfI rfl rfl hv3 ?_
      obtain ⟨v4, hv4, h⟩ := obind h
      refine pE_aI rfl rfl hv4 ?_
      refine pE_br (v4 ≤ x2) rfl rfl (fun c18 => ?_) (fun c18 => ?_)
      · rw [if_pos c18] at h
        refine pE_weak [none, none, none] trivial ?_
        exact f_M_isUndone_67 sp d N S _ h
      · rw [if_neg c18] at h
        refine pE_jump 2 (pc' := 17) (ls' := [some (.ref x0), some (.int x1), some (.int x2)]) (st' := [.int x2, .ref x0]) (fun _ => rfl) ?_
        obtain ⟨⟨v6, S5⟩, hv6, h⟩ := obind h
        try dsimp only at h
        refine pE_iv (Bs := [.int x2]) (st := []) 1 rfl (Or.inl ⟨rfl, rfl⟩) rfl rfl (Nat.le_of_ble_eq_true rfl) (Nat.le_of_ble_eq_true rfl) (g_M_isSo hv6) (f_M_isSo sp d N S x0 x2 _ hv6) ?_
        refine pE_br (v6 = 0) rfl rfl (fun c17 => ?_) (fun c17 => ?_)
        · rw [if_pos c17] at h
          exact f_M_isUndone_61 sp d N rec2 x0 x1 x2 S5 hrec2 _ h
        · rw [if_neg c17] at h
          refine pE_jump 1 (pc' := 24) (ls' := [some (.ref x0), some (.int x1), some (.int x2)]) (st' := [.ref x0]) (fun _ => rfl) ?_
          obtain ⟨oq7, hq7, h⟩ := obind h
          cases oq7 with
          | none => cases h
          | some q7 =>
            try dsimp only at h
            refine pE_gfS rfl rfl hq7 ?_
            refine pE_jump 2 (pc' := 30) (ls' := [some (.ref x0), some (.int x1), some (.int x2)]) (st' := [.ref x0, .int 10, .ref q7]) (fun _ => rfl) ?_
            obtain ⟨v9, hv9, h⟩ := obind h
            refine pE_gfI rfl rfl hv9 ?_
            refine pE_jump 3 (pc' := 36) (ls' := [some (.ref x0), some (.int x1), some (.int x2)]) (st' := [.int ((10 * v9) + x2), .ref q7]) (fun _ => rfl) ?_
            obtain ⟨v10, hv10, h⟩ := obind h
            refine pE_aI rfl rfl hv10 ?_
            refine pE_jump 1 (pc' := 38) (ls' := [some (.ref x0), some (.int x1), some (.int x2)]) (st' := [.int 3, .int v10]) (fun _ => rfl) ?_
            refine pE_br (¬ v10 = 3) rfl rfl (fun c16 => ?_) (fun c16 => ?_)
            · rw [if_neg c16] at h
              exact f_M_isUndone_61 sp d N rec2 x0 x1 x2 S5 hrec2 _ h
            · have c16 := Decidable.not_not.mp c16
              rw [if_pos c16] at h
              refine pE_jump 1 (pc' := 42) (ls' := [some (.ref x0), some (.int x1), some (.int x2)]) (st' := [.ref x0]) (fun _ => rfl) ?_
              obtain ⟨oq11, hq11, h⟩ := obind h
              cases oq11 with
              | none => cases h
              | some q11 =>
                try dsimp only at h
                refine pE_gfS rfl rfl hq11 ?_
                refine pE_jump 2 (pc' := 48) (ls' := [some (.ref x0), some (.int x1), some (.int x2)]) (st' := [.ref x0, .int 10, .ref q11]) (fun _ => rfl) ?_
                obtain ⟨v13, hv13, h⟩ := obind h
                refine pE_gfI rfl rfl hv13 ?_
                refine pE_jump 3 (pc' := 54) (ls' := [some (.ref x0), some (.int x1), some (.int x2)]) (st' := [.int ((10 * v13) + x2), .ref q11]) (fun _ => rfl) ?_
                obtain ⟨v14, hv14, h⟩ := obind h
                refine pE_aI rfl rfl hv14 ?_
                refine pE_jump 1 (pc' := 56) (ls' := [some (.ref x0), some (.int x1), some (.int x2)]) (st' := [.int x1, .int v14]) (fun _ => rfl) ?_
                refine pE_br (¬ v14 = x1) rfl rfl (fun c15 => ?_) (fun c15 => ?_)
                · rw [if_neg c15] at h
                  exact f_M_isUndone_61 sp d N rec2 x0 x1 x2 S5 hrec2 _ h
                · have c15 := Decidable.not_not.mp c15
                  rw [if_pos c15] at h
                  refine pE_weak [none, none, none] trivial ?_
                  exact f_M_isUndone_59 sp d N S5 _ h
def F_M_isUndone (N : Nat) (S : pm_S) (a : Nat) (p0 : Int32) : Option (Int32 × pm_S) :=
    if rcv S a 11 = true then
    (F_M_isUndone_2 N a p0 N 0 S)
    else none
theorem g_M_isUndone {N : Nat} {S : pm_S} {a : Nat} {p0 : Int32} {r : (Int32 × pm_S)} (h : F_M_isUndone N S a p0 = some r) : rcv S a 11 = true := by
  unfold F_M_isUndone at h
  by_cases c : rcv S a 11 = true
  · exact c
  · rw [if_neg c] at h; cases h
set_option maxHeartbeats 4000000 in
set_option maxRecDepth 20000 in
theorem f_M_isUndone (sp : pm_I → List Value → pm_S → pm_O → Prop) (d N : Nat) (S : pm_S) (a : Nat) (p0 : Int32) (r : (Int32 × pm_S)) (h : F_M_isUndone N S a p0 = some r) : pm_rel pG sp (d + 2) mi_M_isUndone [.ref a, .int p0] S (some (.int r.1), r.2) := by
  have hg := g_M_isUndone h
  unfold F_M_isUndone at h
  rw [if_pos hg] at h
  refine pE_rel (d := d + 1) ?_
  show pmE pG _ mi_M_isUndone 0 [some (.ref a), some (.int p0), none] [] S _
  refine pE_jump 2 (pc' := 2) (ls' := [some (.ref a), some (.int p0), some (.int 0)]) (st' := []) (fun _ => rfl) ?_
  exact f_M_isUndone_2 sp d N a p0 N 0 S _ h
