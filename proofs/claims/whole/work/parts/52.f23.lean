def F_M_givesWay_145 (N : Nat)   (S : pm_S) : Option (Int32 × pm_S) :=
    some (0, S)
set_option maxHeartbeats 4000000 in
set_option maxRecDepth 20000 in
theorem f_M_givesWay_145 (sp : pm_I → List Value → pm_S → pm_O → Prop) (d N : Nat)   (S : pm_S)  (r : (Int32 × pm_S)) (h : F_M_givesWay_145 N   S = some r) : pmE pG (pm_rel pG sp (d + 2)) mi_M_givesWay 145 [none, none, none, none, none, none] [] S (some (.int r.1), r.2) := by
  unfold F_M_givesWay_145 at h
  refine pE_jump 1 (pc' := 146) (ls' := [none, none, none, none, none, none]) (st' := [.int 0]) (fun _ => rfl) ?_
  cases h
  exact pE_ret rfl rfl rfl
def F_M_givesWay_139 (N : Nat) (rec33 : Int32 → pm_S → Option (Int32 × pm_S)) (x0 : Nat) (x1 : Int32) (x2 : Int32) (x3 : Int32) (S : pm_S) : Option (Int32 × pm_S) :=
    rec33 (x3 + 1) S
set_option maxHeartbeats 4000000 in
set_option maxRecDepth 20000 in
theorem f_M_givesWay_139 (sp : pm_I → List Value → pm_S → pm_O → Prop) (d N : Nat) (rec33 : Int32 → pm_S → Option (Int32 × pm_S)) (x0 : Nat) (x1 : Int32) (x2 : Int32) (x3 : Int32) (S : pm_S) (hrec33 : ∀ (y1 : Int32) (U : pm_S) (r : (Int32 × pm_S)), rec33 y1 U = some r → pmE pG (pm_rel pG sp (d + 2)) mi_M_givesWay 33 [some (.ref x0), some (.int x1), some (.int x2), some (.int y1), none, none] [] U (some (.int r.1), r.2)) (r : (Int32 × pm_S)) (h : F_M_givesWay_139 N rec33 x0 x1 x2 x3 S = some r) : pmE pG (pm_rel pG sp (d + 2)) mi_M_givesWay 139 [some (.ref x0), some (.int x1), some (.int x2), some (.int x3), none, none] [] S (some (.int r.1), r.2) := by
  unfold F_M_givesWay_139 at h
  refine pE_jump 2 (pc' := 33) (ls' := [some (.ref x0), some (.int x1), some (.int x2), some (.int (x3 + 1)), none, none]) (st' := []) (fun _ => rfl) ?_
  exact hrec33 (x3 + 1) S _ h
def F_M_givesWay_123 (N : Nat)  (x0 : Nat) (x1 : Int32) (x2 : Int32) (x3 : Int32) (S : pm_S) : Option (Int32 × pm_S) :=
    (oR S x0 11 55).bind fun oq13 => match oq13 with
    | none => none
    | some q13 =>
    (sI [2, 3] S q13 x3 1).bind fun S14 =>
    (F_M_goes N S14 x0 x1 x3 x2).bind fun S15 =>
    some (1, S15)
set_option maxHeartbeats 4000000 in
set_option maxRecDepth 20000 in
theorem f_M_givesWay_123 (sp : pm_I → List Value → pm_S → pm_O → Prop) (d N : Nat)  (x0 : Nat) (x1 : Int32) (x2 : Int32) (x3 : Int32) (S : pm_S)  (r : (Int32 × pm_S)) (h : F_M_givesWay_123 N  x0 x1 x2 x3 S = some r) : pmE pG (pm_rel pG sp (d + 2)) mi_M_givesWay 123 [some (.ref x0), some (.int x1), some (.int x2), some (.int x3), none, none] [] S (some (.int r.1), r.2) := by
  unfold F_M_givesWay_123 at h
  refine pE_jump 1 (pc' := 124) (ls' := [some (.ref x0), some (.int x1), some (.int x2), some (.int x3), none, none]) (st' := [.ref x0]) (fun _ => rfl) ?_
  obtain ⟨oq13, hq13, h⟩ := obind h
  cases oq13 with
  | none => cases h
  | some q13 =>
    try dsimp only at h
    refine pE_gfS rfl rfl hq13 ?_
    refine pE_jump 2 (pc' := 129) (ls' := [some (.ref x0), some (.int x1), some (.int x2), some (.int x3), none, none]) (st' := [.int 1, .int x3, .ref q13]) (fun _ => rfl) ?_
    obtain ⟨S14, hS14, h⟩ := obind h
    refine pE_sI rfl rfl hS14 ?_
    refine pE_jump 4 (pc' := 134) (ls' := [some (.ref x0), some (.int x1), some (.int x2), some (.int x3), none, none]) (st' := [.int x2, .int x3, .int x1, .ref x0]) (fun _ => rfl) ?_
    obtain ⟨S15, hS15, h⟩ := obind h
    refine pE_iv (Bs := [.int x1, .int x3, .int x2]) (st := []) 1 rfl (Or.inl ⟨rfl, rfl⟩) rfl rfl (Nat.le_of_ble_eq_true rfl) (Nat.le_of_ble_eq_true rfl) (g_M_goes hS15) (f_M_goes sp d N S14 x0 x1 x3 x2 _ hS15) ?_
    refine pE_jump 1 (pc' := 138) (ls' := [some (.ref x0), some (.int x1), some (.int x2), some (.int x3), none, none]) (st' := [.int 1]) (fun _ => rfl) ?_
    cases h
    exact pE_ret rfl rfl rfl
def F_M_givesWay_102 (N : Nat) (rec33 : Int32 → pm_S → Option (Int32 × pm_S)) (x0 : Nat) (x1 : Int32) (x2 : Int32) (x3 : Int32) (t0 : Int32) (S : pm_S) : Option (Int32 × pm_S) :=
    if t0 = (-1) then
    F_M_givesWay_139 N rec33 x0 x1 x2 x3 S
    else
    ((F_M_isAstray N S x0 x1 t0).bind fun (v12, S11) =>
    if v12 = 0 then
    F_M_givesWay_139 N rec33 x0 x1 x2 x3 S11
    else
    F_M_givesWay_123 N x0 x1 x2 x3 S11)
set_option maxHeartbeats 4000000 in
set_option maxRecDepth 20000 in
theorem f_M_givesWay_102 (sp : pm_I → List Value → pm_S → pm_O → Prop) (d N : Nat) (rec33 : Int32 → pm_S → Option (Int32 × pm_S)) (x0 : Nat) (x1 : Int32) (x2 : Int32) (x3 : Int32) (t0 : Int32) (S : pm_S) (hrec33 : ∀ (y1 : Int32) (U : pm_S) (r : (Int32 × pm_S)), rec33 y1 U = some r → pmE pG (pm_rel pG sp (d + 2)) mi_M_givesWay 33 [some (.ref x0), some (.int x1), some (.int x2), some (.int y1), none, none] [] U (some (.int r.1), r.2)) (r : (Int32 × pm_S)) (h : F_M_givesWay_102 N rec33 x0 x1 x2 x3 t0 S = some r) : pmE pG (pm_rel pG sp (d + 2)) mi_M_givesWay 102 [some (.ref x0), some (.int x1), some (.int x2), some (.int x3), none, none] [.int t0] S (some (.int r.1), r.2) := by
  unfold F_M_givesWay_102 at h
  refine pE_jump 3 (pc' := 107) (ls' := [some (.ref x0), some (.int x1), some (.int x2), some (.int x3), none, some (.int t0)]) (st' := [.int (-1), .int t0]) (fun _ => rfl) ?_
  refine pE_br (t0 = (-1)) rfl rfl (fun c17 => ?_) (fun c17 => ?_)
  · rw [if_pos c17] at h
    refine pE_weak [some (.ref x0), some (.int x1), some (.int x2), some (.int x3), none, none] ⟨rfl, ⟨rfl, ⟨rfl, ⟨rfl, trivial⟩⟩⟩⟩ ?_
    exact f_M_givesWay_139 sp d N rec33 x0 x1 x2 x3 S hrec33 _ h
  · rw [if_neg c17] at h
    refine pE_jump 3 (pc' := 114) (ls' := [some (.ref x0), some (.int x1), some (.int x2), some (.int x3), none, some (.int t0)]) (st' := [.int t0, .int x1, .ref x0]) (fun _ => rfl) ?_
    obtain ⟨⟨v12, S11⟩, hv12, h⟩ := obind h
    try dsimp only at h
    refine pE_iv (Bs := [.int x1, .int t0]) (st := []) 1 rfl (Or.inl ⟨rfl, rfl⟩) rfl rfl (Nat.le_of_ble_eq_true rfl) (Nat.le_of_ble_eq_true rfl) (g_M_isAstray hv12) (f_M_isAstray sp d N S x0 x1 t0 _ hv12) ?_
    refine pE_br (¬ v12 = 0) rfl rfl (fun c16 => ?_) (fun c16 => ?_)
    · rw [if_neg c16] at h
      refine pE_weak [some (.ref x0), some (.int x1), some (.int x2), some (.int x3), none, none] ⟨rfl, ⟨rfl, ⟨rfl, ⟨rfl, trivial⟩⟩⟩⟩ ?_
      exact f_M_givesWay_123 sp d N x0 x1 x2 x3 S11 _ h
    · have c16 := Decidable.not_not.mp c16
      rw [if_pos c16] at h
      refine pE_jump 1 (pc' := 139) (ls' := [some (.ref x0), some (.int x1), some (.int x2), some (.int x3), none, some (.int t0)]) (st' := []) (fun _ => rfl) ?_
      refine pE_weak [some (.ref x0), some (.int x1), some (.int x2), some (.int x3), none, none] ⟨rfl, ⟨rfl, ⟨rfl, ⟨rfl, trivial⟩⟩⟩⟩ ?_
      exact f_M_givesWay_139 sp d N rec33 x0 x1 x2 x3 S11 hrec33 _ h
def B_M_givesWay_33 (N : Nat)  (rec33 : Int32 → pm_S → Option (Int32 × pm_S)) (x0 : Nat) (x1 : Int32) (x2 : Int32) (x3 : Int32) (S : pm_S) : Option (Int32 × pm_S) :=
    if 10 ≤ x3 then
    F_M_givesWay_145 N S
    else
    ((F_M_isAstray N S x0 x1 x3).bind fun (v2, S1) =>
    if v2 = 0 then
    F_M_givesWay_139 N rec33 x0 x1 x2 x3 S1
    else
    ((oR S1 x0 11 55).bind fun oq3 => match oq3 with
    | none => none
    | some q3 =>
    (aI [2, 3] S1 q3 x3).bind fun v4 =>
    if v4 = 0 then
    ((oR S1 x0 11 53).bind fun oq5 => match oq5 with
    | none => none
    | some q5 =>
    (oI S1 x0 11 29).bind fun v7 =>
    (aI [0, 6] S1 q5 ((10 * v7) + x3)).bind fun v8 =>
    (F_M_isIn N S1 v8 0 5).bind fun (v10, S9) =>
    if v10 = 0 then
    F_M_givesWay_102 N rec33 x0 x1 x2 x3 (-1) S9
    else
    ((oR S9 x0 11 27).bind fun oq18 => match oq18 with
    | none => none
    | some q18 =>
    (aI [0, 6] S9 q18 ((6 * x1) + v8)).bind fun v19 =>
    F_M_givesWay_102 N rec33 x0 x1 x2 x3 v19 S9))
    else
    F_M_givesWay_139 N rec33 x0 x1 x2 x3 S1))
def F_M_givesWay_33 (N : Nat)  (x0 : Nat) (x1 : Int32) (x2 : Int32) : Nat → Int32 → pm_S → Option (Int32 × pm_S)
  | 0 => fun _ _ => none
  | n + 1 => fun x3 S => B_M_givesWay_33 N  (F_M_givesWay_33 N  x0 x1 x2 n) x0 x1 x2 x3 S
set_option maxHeartbeats 4000000 in
set_option maxRecDepth 20000 in
theorem f_M_givesWay_33 (sp : pm_I → List Value → pm_S → pm_O → Prop) (d N : Nat)  (x0 : Nat) (x1 : Int32) (x2 : Int32)  : ∀ (n : Nat) (x3 : Int32) (S : pm_S) (r : (Int32 × pm_S)), F_M_givesWay_33 N  x0 x1 x2 n x3 S = some r → pmE pG (pm_rel pG sp (d + 2)) mi_M_givesWay 33 [some (.ref x0), some (.int x1), some (.int x2), some (.int x3), none, none] [] S (some (.int r.1), r.2) := by
  intro n
  induction n with
  | zero =>
    intro x3 S r h
    cases h
  | succ n ih =>
    intro x3 S r h
    replace h : B_M_givesWay_33 N  (F_M_givesWay_33 N  x0 x1 x2 n) x0 x1 x2 x3 S = some r := h
    have hrec33 := ih
    generalize F_M_givesWay_33 N  x0 x1 x2 n = rec33 at h hrec33
    unfold B_M_givesWay_33 at h
    refine pE_jump 2 (pc' := 36) (ls' := [some (.ref x0), some (.int x1), some (.int x2), some (.int x3), none, none]) (st' := [.int 10, .int x3]) (fun _ => rfl) ?_
    refine pE_br (10 ≤ x3) rfl rfl (fun c23 => ?_) (fun c23 => ?_)
    · rw [if_pos c23] at h
      refine pE_weak [none, none, none, none, none, none] trivial ?_
      exact f_M_givesWay_145 sp d N S _ h
    · rw [if_neg c23] at h
      refine pE_jump 3 (pc' := 42) (ls' := [some (.ref x0), some (.int x1), some (.int x2), some (.int x3), none, none]) (st' := [.int x3, .int x1, .ref x0]) (fun _ => rfl) ?_
      obtain ⟨⟨v2, S1⟩, hv2, h⟩ := obind h
      try dsimp only at h
      refine pE_iv (Bs := [.int x1, .int x3]) (st := []) 1 rfl (Or.inl ⟨rfl, rfl⟩) rfl rfl (Nat.le_of_ble_eq_true rfl) (Nat.le_of_ble_eq_true rfl) (g_M_isAstray hv2) (f_M_isAstray sp d N S x0 x1 x3 _ hv2) ?_
      refine pE_br (v2 = 0) rfl rfl (fun c22 => ?_) (fun c22 => ?_)
      · rw [if_pos c22] at h
        exact f_M_givesWay_139 sp d N rec33 x0 x1 x2 x3 S1 hrec33 _ h
      · rw [if_neg c22] at h
        refine pE_jump 1 (pc' := 49) (ls' := [some (.ref x0), some (.int x1), some (.int x2), some (.int x3), none, none]) (st' := [.ref x0]) (fun _ => rfl) ?_
        obtain ⟨oq3, hq3, h⟩ := obind h
        cases oq3 with
        | none => cases h
        | some q3 =>
          try dsimp only at h
          refine pE_gfS rfl rfl hq3 ?_
          refine pE_jump 1 (pc' := 53) (ls' := [some (.ref x0), some (.int x1), some (.int x2), some (.int x3), none, none]) (st' := [.int x3, .ref q3]) (fun _ => rfl) ?_
          obtain ⟨v4, hv4, h⟩ := obind h
          refine pE_aI rfl rfl hv4 ?_
          refine pE_br (v4 = 0) rfl rfl (fun c21 => ?_) (fun c21 => ?_)
          · rw [if_pos c21] at h
            refine pE_jump 1 (pc' := 61) (ls' := [some (.ref x0), some (.int x1), some (.int x2), some (.int x3), none, none]) (st' := [.ref x0]) (fun _ => rfl) ?_
            obtain ⟨oq5, hq5, h⟩ := obind h
            cases oq5 with
            | none => cases h
            | some q5 =>
              try dsimp only at h
              refine pE_gfS rfl rfl hq5 ?_
              refine pE_jump 2 (pc' := 67) (ls' := [some (.ref x0), some (.int x1), some (.int x2), some (.int x3), none, none]) (st' := [.ref x0, .int 10, .ref q5]) (fun _ => rfl) ?_
              obtain ⟨v7, hv7, h⟩ := obind h
              refine pE_gfI rfl rfl hv7 ?_
              refine pE_jump 3 (pc' := 73) (ls' := [some (.ref x0), some (.int x1), some (.int x2), some (.int x3), none, none]) (st' := [.int ((10 * v7) + x3), .ref q5]) (fun _ => rfl) ?_
              obtain ⟨v8, hv8, h⟩ := obind h
              refine pE_aI rfl rfl hv8 ?_
              refine pE_jump 4 (pc' := 80) (ls' := [some (.ref x0), some (.int x1), some (.int x2), some (.int x3), some (.int v8), none]) (st' := [.int 5, .int 0, .int v8]) (fun _ => rfl) ?_
              obtain ⟨⟨v10, S9⟩, hv10, h⟩ := obind h
              try dsimp only at h
              refine pE_is (Bs := [.int v8, .int 0, .int 5]) (st := []) rfl rfl rfl (Nat.le_of_ble_eq_true rfl) (Nat.le_of_ble_eq_true rfl) (f_M_isIn sp (d + 1) N S1 v8 0 5 _ hv10) ?_
              refine pE_br (v10 = 0) rfl rfl (fun c20 => ?_) (fun c20 => ?_)
              · rw [if_pos c20] at h
                refine pE_jump 1 (pc' := 102) (ls' := [some (.ref x0), some (.int x1), some (.int x2), some (.int x3), some (.int v8), none]) (st' := [.int (-1)]) (fun _ => rfl) ?_
                refine pE_weak [some (.ref x0), some (.int x1), some (.int x2), some (.int x3), none, none] ⟨rfl, ⟨rfl, ⟨rfl, ⟨rfl, trivial⟩⟩⟩⟩ ?_
                exact f_M_givesWay_102 sp d N rec33 x0 x1 x2 x3 (-1) S9 hrec33 _ h
              · rw [if_neg c20] at h
                refine pE_jump 1 (pc' := 87) (ls' := [some (.ref x0), some (.int x1), some (.int x2), some (.int x3), some (.int v8), none]) (st' := [.ref x0]) (fun _ => rfl) ?_
                obtain ⟨oq18, hq18, h⟩ := obind h
                cases oq18 with
                | none => cases h
                | some q18 =>
                  try dsimp only at h
                  refine pE_gfS rfl rfl hq18 ?_
                  refine pE_jump 5 (pc' := 97) (ls' := [some (.ref x0), some (.int x1), some (.int x2), some (.int x3), some (.int v8), none]) (st' := [.int ((6 * x1) + v8), .ref q18]) (fun _ => rfl) ?_
                  obtain ⟨v19, hv19, h⟩ := obind h
                  refine pE_aI rfl rfl hv19 ?_
                  refine pE_jump 1 (pc' := 102) (ls' := [some (.ref x0), some (.int x1), some (.int x2), some (.int x3), some (.int v8), none]) (st' := [.int v19]) (fun _ => rfl) ?_
                  refine pE_weak [some (.ref x0), some (.int x1), some (.int x2), some (.int x3), none, none] ⟨rfl, ⟨rfl, ⟨rfl, ⟨rfl, trivial⟩⟩⟩⟩ ?_
                  exact f_M_givesWay_102 sp d N rec33 x0 x1 x2 x3 v19 S9 hrec33 _ h
          · rw [if_neg c21] at h
            refine pE_jump 1 (pc' := 139) (ls' := [some (.ref x0), some (.int x1), some (.int x2), some (.int x3), none, none]) (st' := []) (fun _ => rfl) ?_
            exact f_M_givesWay_139 sp d N rec33 x0 x1 x2 x3 S1 hrec33 _ h
def F_M_givesWay_23 (N : Nat)  (x0 : Nat) (x1 : Int32) (x2 : Int32) (S : pm_S) : Option (Int32 × pm_S) :=
    if x2 = 6 then
    some (0, S)
    else
    F_M_givesWay_33 N x0 x1 x2 N 0 S
set_option maxHeartbeats 4000000 in
set_option maxRecDepth 20000 in
theorem f_M_givesWay_23 (sp : pm_I → List Value → pm_S → pm_O → Prop) (d N : Nat)  (x0 : Nat) (x1 : Int32) (x2 : Int32) (S : pm_S)  (r : (Int32 × pm_S)) (h : F_M_givesWay_23 N  x0 x1 x2 S = some r) : pmE pG (pm_rel pG sp (d + 2)) mi_M_givesWay 23 [some (.ref x0), some (.int x1), some (.int x2), none, none, none] [] S (some (.int r.1), r.2) := by
  unfold F_M_givesWay_23 at h
  refine pE_jump 2 (pc' := 26) (ls' := [some (.ref x0), some (.int x1), some (.int x2), none, none, none]) (st' := [.int 6, .int x2]) (fun _ => rfl) ?_
  refine pE_br (¬ x2 = 6) rfl rfl (fun c24 => ?_) (fun c24 => ?_)
  · rw [if_neg c24] at h
    refine pE_jump 2 (pc' := 33) (ls' := [some (.ref x0), some (.int x1), some (.int x2), some (.int 0), none, none]) (st' := []) (fun _ => rfl) ?_
    exact f_M_givesWay_33 sp d N x0 x1 x2 N 0 S _ h
  · have c24 := Decidable.not_not.mp c24
    rw [if_pos c24] at h
    refine pE_jump 1 (pc' := 30) (ls' := [some (.ref x0), some (.int x1), some (.int x2), none, none, none]) (st' := [.int 0]) (fun _ => rfl) ?_
    cases h
    exact pE_ret rfl rfl rfl
def B_M_givesWay_2 (N : Nat)  (rec2 : Int32 → pm_S → Option (Int32 × pm_S)) (x0 : Nat) (x1 : Int32) (x2 : Int32) (S : pm_S) : Option (Int32 × pm_S) :=
    if 6 ≤ x2 then
    F_M_givesWay_23 N x0 x1 x2 S
    else
    ((F_M_isFree N S x0 x1 x2).bind fun (v26, S25) =>
    if v26 = 0 then
    rec2 (x2 + 1) S25
    else
    F_M_givesWay_23 N x0 x1 x2 S25)
def F_M_givesWay_2 (N : Nat)  (x0 : Nat) (x1 : Int32) : Nat → Int32 → pm_S → Option (Int32 × pm_S)
  | 0 => fun _ _ => none
  | n + 1 => fun x2 S => B_M_givesWay_2 N  (F_M_givesWay_2 N  x0 x1 n) x0 x1 x2 S
set_option maxHeartbeats 4000000 in
set_option maxRecDepth 20000 in
theorem f_M_givesWay_2 (sp : pm_I → List Value → pm_S → pm_O → Prop) (d N : Nat)  (x0 : Nat) (x1 : Int32)  : ∀ (n : Nat) (x2 : Int32) (S : pm_S) (r : (Int32 × pm_S)), F_M_givesWay_2 N  x0 x1 n x2 S = some r → pmE pG (pm_rel pG sp (d + 2)) mi_M_givesWay 2 [some (.ref x0), some (.int x1), some (.int x2), none, none, none] [] S (some (.int r.1), r.2) := by
  intro n
  induction n with
  | zero =>
    intro x2 S r h
    cases h
  | succ n ih =>
    intro x2 S r h
    replace h : B_M_givesWay_2 N  (F_M_givesWay_2 N  x0 x1 n) x0 x1 x2 S = some r := h
    have hrec2 := ih
    generalize F_M_givesWay_2 N  x0 x1 n = rec2 at h hrec2
    unfold B_M_givesWay_2 at h
    refine pE_jump 2 (pc' := 5) (ls' := [some (.ref x0), some (.int x1), some (.int x2), none, none, none]) (st' := [.int 6, .int x2]) (fun _ => rfl) ?_
    refine pE_br (6 ≤ x2) rfl rfl (fun c28 => ?_) (fun c28 => ?_)
    · rw [if_pos c28] at h
      exact f_M_givesWay_23 sp d N x0 x1 x2 S _ h
    · rw [if_neg c28] at h
      refine pE_jump 3 (pc' := 11) (ls' := [some (.ref x0), some (.int x1), some (.int x2), none, none, none]) (st' := [.int x2, .int x1, .ref x0]) (fun _ => rfl) ?_
      obtain ⟨⟨v26, S25⟩, hv26, h⟩ := obind h
      try dsimp only at h
      refine pE_iv (Bs := [.int x1, .int x2]) (st := []) 1 rfl (Or.inl ⟨rfl, rfl⟩) rfl rfl (Nat.le_of_ble_eq_true rfl) (Nat.le_of_ble_eq_true rfl) (g_M_isFree hv26) (f_M_isFree sp d N S x0 x1 x2 _ hv26) ?_
      refine pE_br (¬ v26 = 0) rfl rfl (fun c27 => ?_) (fun c27 => ?_)
      · rw [if_neg c27] at h
        exact f_M_givesWay_23 sp d N x0 x1 x2 S25 _ h
      · have c27 := Decidable.not_not.mp c27
        rw [if_pos c27] at h
        refine pE_jump 2 (pc' := 2) (ls' := [some (.ref x0), some (.int x1), some (.int (x2 + 1)), none, none, none]) (st' := []) (fun _ => rfl) ?_
        exact hrec2 (x2 + 1) S25 _ h
def F_M_givesWay (N : Nat) (S : pm_S) (a : Nat) (p0 : Int32) : Option (Int32 × pm_S) :=
    if rcv S a 11 = true then
    (F_M_givesWay_2 N a p0 N 0 S)
    else none
theorem g_M_givesWay {N : Nat} {S : pm_S} {a : Nat} {p0 : Int32} {r : (Int32 × pm_S)} (h : F_M_givesWay N S a p0 = some r) : rcv S a 11 = true := by
  unfold F_M_givesWay at h
  by_cases c : rcv S a 11 = true
  · exact c
  · rw [if_neg c] at h; cases h
set_option maxHeartbeats 4000000 in
set_option maxRecDepth 20000 in
theorem f_M_givesWay (sp : pm_I → List Value → pm_S → pm_O → Prop) (d N : Nat) (S : pm_S) (a : Nat) (p0 : Int32) (r : (Int32 × pm_S)) (h : F_M_givesWay N S a p0 = some r) : pm_rel pG sp (d + 3) mi_M_givesWay [.ref a, .int p0] S (some (.int r.1), r.2) := by
  have hg := g_M_givesWay h
  unfold F_M_givesWay at h
  rw [if_pos hg] at h
  refine pE_rel (d := d + 2) ?_
  show pmE pG _ mi_M_givesWay 0 [some (.ref a), some (.int p0), none, none, none, none] [] S _
  refine pE_jump 2 (pc' := 2) (ls' := [some (.ref a), some (.int p0), some (.int 0), none, none, none]) (st' := []) (fun _ => rfl) ?_
  exact f_M_givesWay_2 sp d N a p0 N 0 S _ h
def F_M_moves_40 (N : Nat)   (S : pm_S) : Option (Int32 × pm_S) :=
    some ((-1), S)
set_option maxHeartbeats 4000000 in
set_option maxRecDepth 20000 in
theorem f_M_moves_40 (sp : pm_I → List Value → pm_S → pm_O → Prop) (d N : Nat)   (S : pm_S)  (r : (Int32 × pm_S)) (h : F_M_moves_40 N   S = some r) : pmE pG (pm_rel pG sp (d + 5)) mi_M_moves 40 [none, none, none, none, none, none, none] [] S (some (.int r.1), r.2) := by
  unfold F_M_moves_40 at h
  refine pE_jump 1 (pc' := 41) (ls' := [none, none, none, none, none, none, none]) (st' := [.int (-1)]) (fun _ => rfl) ?_
  cases h
  exact pE_ret rfl rfl rfl
def F_M_moves_236 (N : Nat)  (t0 : Int32) (S : pm_S) : Option (Int32 × pm_S) :=
    some (t0, S)
set_option maxHeartbeats 4000000 in
set_option maxRecDepth 20000 in
theorem f_M_moves_236 (sp : pm_I → List Value → pm_S → pm_O → Prop) (d N : Nat)  (t0 : Int32) (S : pm_S)  (r : (Int32 × pm_S)) (h : F_M_moves_236 N  t0 S = some r) : pmE pG (pm_rel pG sp (d + 5)) mi_M_moves 236 [none, none, none, none, none, none, none] [.int t0] S (some (.int r.1), r.2) := by
  unfold F_M_moves_236 at h
  cases h
  exact pE_ret rfl rfl rfl
def F_M_moves_197 (N : Nat)  (x0 : Nat) (x4 : Int32) (S : pm_S) : Option (Int32 × pm_S) :=
    if x4 = (-1) then
    ((oI S x0 11 57).bind fun v14 =>
    F_M_moves_236 N v14 S)
    else
    ((oI S x0 11 57).bind fun v15 =>
    (F_M_isIn N S x4 0 (v15 - 1)).bind fun (v17, S16) =>
    if v17 = 0 then
    F_M_moves_236 N (-1) S16
    else
    ((oR S16 x0 11 56).bind fun oq18 => match oq18 with
    | none => none
    | some q18 =>
    (aI [0, 6] S16 q18 x4).bind fun v19 =>
    F_M_moves_236 N v19 S16))
set_option maxHeartbeats 4000000 in
set_option maxRecDepth 20000 in
theorem f_M_moves_197 (sp : pm_I → List Value → pm_S → pm_O → Prop) (d N : Nat)  (x0 : Nat) (x4 : Int32) (S : pm_S)  (r : (Int32 × pm_S)) (h : F_M_moves_197 N  x0 x4 S = some r) : pmE pG (pm_rel pG sp (d + 5)) mi_M_moves 197 [some (.ref x0), none, none, none, some (.int x4), none, none] [] S (some (.int r.1), r.2) := by
  unfold F_M_moves_197 at h
  refine pE_jump 2 (pc' := 200) (ls' := [some (.ref x0), none, none, none, some (.int x4), none, none]) (st' := [.int (-1), .int x4]) (fun _ => rfl) ?_
  refine pE_br (¬ x4 = (-1)) rfl rfl (fun c21 => ?_) (fun c21 => ?_)
  · rw [if_neg c21] at h
    refine pE_jump 3 (pc' := 214) (ls' := [some (.ref x0), none, none, none, some (.int x4), none, none]) (st' := [.ref x0, .int 0, .int x4]) (fun _ => rfl) ?_
    obtain ⟨v15, hv15, h⟩ := obind h
    refine pE_gfI rfl rfl hv15 ?_
    refine pE_jump 2 (pc' := 219) (ls' := [some (.ref x0), none, none, none, some (.int x4), none, none]) (st' := [.int (v15 - 1), .int 0, .int x4]) (fun _ => rfl) ?_
    obtain ⟨⟨v17, S16⟩, hv17, h⟩ := obind h
    try dsimp only at h
    refine pE_is (Bs := [.int x4, .int 0, .int (v15 - 1)]) (st := []) rfl rfl rfl (Nat.le_of_ble_eq_true rfl) (Nat.le_of_ble_eq_true rfl) (f_M_isIn sp (d + 4) N S x4 0 (v15 - 1) _ hv17) ?_
    refine pE_br (v17 = 0) rfl rfl (fun c20 => ?_) (fun c20 => ?_)
    · rw [if_pos c20] at h
      refine pE_jump 1 (pc' := 236) (ls' := [some (.ref x0), none, none, none, some (.int x4), none, none]) (st' := [.int (-1)]) (fun _ => rfl) ?_
      refine pE_weak [none, none, none, none, none, none, none] trivial ?_
      exact f_M_moves_236 sp d N (-1) S16 _ h
    · rw [if_neg c20] at h
      refine pE_jump 1 (pc' := 226) (ls' := [some (.ref x0), none, none, none, some (.int x4), none, none]) (st' := [.ref x0]) (fun _ => rfl) ?_
      obtain ⟨oq18, hq18, h⟩ := obind h
      cases oq18 with
      | none => cases h
      | some q18 =>
        try dsimp only at h
        refine pE_gfS rfl rfl hq18 ?_
        refine pE_jump 1 (pc' := 231) (ls' := [some (.ref x0), none, none, none, some (.int x4), none, none]) (st' := [.int x4, .ref q18]) (fun _ => rfl) ?_
        obtain ⟨v19, hv19, h⟩ := obind h
        refine pE_aI rfl rfl hv19 ?_
        refine pE_jump 1 (pc' := 236) (ls' := [some (.ref x0), none, none, none, some (.int x4), none, none]) (st' := [.int v19]) (fun _ => rfl) ?_
        refine pE_weak [none, none, none, none, none, none, none] trivial ?_
        exact f_M_moves_236 sp d N v19 S16 _ h
  · have c21 := Decidable.not_not.mp c21
    rw [if_pos c21] at h
    refine pE_jump 1 (pc' := 204) (ls' := [some (.ref x0), none, none, none, some (.int x4), none, none]) (st' := [.ref x0]) (fun _ => rfl) ?_
    obtain ⟨v14, hv14, h⟩ := obind h
    refine pE_gfI rfl rfl hv14 ?_
    refine pE_jump 1 (pc' := 236) (ls' := [some (.ref x0), none, none, none, some (.int x4), none, none]) (st' := [.int v14]) (fun _ => rfl) ?_
    refine pE_weak [none, none, none, none, none, none, none] trivial ?_
    exact f_M_moves_236 sp d N v14 S _ h
def F_M_moves_192 (N : Nat) (rec164 : Int32 → pm_S → Option (Int32 × pm_S)) (x0 : Nat) (x4 : Int32) (x5 : Int32) (t0 : Int32) (S : pm_S) : Option (Int32 × pm_S) :=
    rec164 t0 S
set_option maxHeartbeats 4000000 in
set_option maxRecDepth 20000 in
theorem f_M_moves_192 (sp : pm_I → List Value → pm_S → pm_O → Prop) (d N : Nat) (rec164 : Int32 → pm_S → Option (Int32 × pm_S)) (x0 : Nat) (x4 : Int32) (x5 : Int32) (t0 : Int32) (S : pm_S) (hrec164 : ∀ (y1 : Int32) (U : pm_S) (r : (Int32 × pm_S)), rec164 y1 U = some r → pmE pG (pm_rel pG sp (d + 5)) mi_M_moves 164 [some (.ref x0), none, none, none, some (.int x4), some (.int x5), some (.int y1)] [] U (some (.int r.1), r.2)) (r : (Int32 × pm_S)) (h : F_M_moves_192 N rec164 x0 x4 x5 t0 S = some r) : pmE pG (pm_rel pG sp (d + 5)) mi_M_moves 192 [some (.ref x0), none, none, none, some (.int x4), some (.int x5), none] [.int t0] S (some (.int r.1), r.2) := by
  unfold F_M_moves_192 at h
  refine pE_jump 2 (pc' := 164) (ls' := [some (.ref x0), none, none, none, some (.int x4), some (.int x5), some (.int t0)]) (st' := []) (fun _ => rfl) ?_
  exact hrec164 t0 S _ h
def F_M_moves_187 (N : Nat) (rec164 : Int32 → pm_S → Option (Int32 × pm_S)) (x0 : Nat) (x4 : Int32) (x5 : Int32) (S : pm_S) : Option (Int32 × pm_S) :=
    F_M_moves_192 N rec164 x0 x4 x5 1 S
set_option maxHeartbeats 4000000 in
set_option maxRecDepth 20000 in
theorem f_M_moves_187 (sp : pm_I → List Value → pm_S → pm_O → Prop) (d N : Nat) (rec164 : Int32 → pm_S → Option (Int32 × pm_S)) (x0 : Nat) (x4 : Int32) (x5 : Int32) (S : pm_S) (hrec164 : ∀ (y1 : Int32) (U : pm_S) (r : (Int32 × pm_S)), rec164 y1 U = some r → pmE pG (pm_rel pG sp (d + 5)) mi_M_moves 164 [some (.ref x0), none, none, none, some (.int x4), some (.int x5), some (.int y1)] [] U (some (.int r.1), r.2)) (r : (Int32 × pm_S)) (h : F_M_moves_187 N rec164 x0 x4 x5 S = some r) : pmE pG (pm_rel pG sp (d + 5)) mi_M_moves 187 [some (.ref x0), none, none, none, some (.int x4), some (.int x5), none] [] S (some (.int r.1), r.2) := by
  unfold F_M_moves_187 at h
  refine pE_jump 2 (pc' := 192) (ls' := [some (.ref x0), none, none, none, some (.int x4), some (.int x5), none]) (st' := [.int 1]) (fun _ => rfl) ?_
  exact f_M_moves_192 sp d N rec164 x0 x4 x5 1 S hrec164 _ h
def B_M_moves_164 (N : Nat)  (rec164 : Int32 → pm_S → Option (Int32 × pm_S)) (x0 : Nat) (x4 : Int32) (x5 : Int32) (x6 : Int32) (S : pm_S) : Option (Int32 × pm_S) :=
    if x6 = 0 then
    F_M_moves_197 N x0 x4 S
    else
    ((F_M_goesHome N S x0 x5).bind fun (v23, S22) =>
    if v23 = 0 then
    ((F_M_givesWay N S22 x0 x5).bind fun (v25, S24) =>
    if v25 = 0 then
    F_M_moves_192 N rec164 x0 x4 x5 0 S24
    else
    F_M_moves_187 N rec164 x0 x4 x5 S24)
    else
    F_M_moves_187 N rec164 x0 x4 x5 S22)
def F_M_moves_164 (N : Nat)  (x0 : Nat) (x4 : Int32) (x5 : Int32) : Nat → Int32 → pm_S → Option (Int32 × pm_S)
  | 0 => fun _ _ => none
  | n + 1 => fun x6 S => B_M_moves_164 N  (F_M_moves_164 N  x0 x4 x5 n) x0 x4 x5 x6 S
set_option maxHeartbeats 4000000 in
set_option maxRecDepth 20000 in
theorem f_M_moves_164 (sp : pm_I → List Value → pm_S → pm_O → Prop) (d N : Nat)  (x0 : Nat) (x4 : Int32) (x5 : Int32)  : ∀ (n : Nat) (x6 : Int32) (S : pm_S) (r : (Int32 × pm_S)), F_M_moves_164 N  x0 x4 x5 n x6 S = some r → pmE pG (pm_rel pG sp (d + 5)) mi_M_moves 164 [some (.ref x0), none, none, none, some (.int x4), some (.int x5), some (.int x6)] [] S (some (.int r.1), r.2) := by
  intro n
  induction n with
  | zero =>
    intro x6 S r h
    cases h
  | succ n ih =>
    intro x6 S r h
    replace h : B_M_moves_164 N  (F_M_moves_164 N  x0 x4 x5 n) x0 x4 x5 x6 S = some r := h
    have hrec164 := ih
    generalize F_M_moves_164 N  x0 x4 x5 n = rec164 at h hrec164
    unfold B_M_moves_164 at h
    refine pE_jump 1 (pc' := 166) (ls' := [some (.ref x0), none, none, none, some (.int x4), some (.int x5), some (.int x6)]) (st' := [.int x6]) (fun _ => rfl) ?_
    refine pE_br (x6 = 0) rfl rfl (fun c28 => ?_) (fun c28 => ?_)
    · rw [if_pos c28] at h
      refine pE_weak [some (.ref x0), none, none, none, some (.int x4), none, none] ⟨rfl, ⟨rfl, trivial⟩⟩ ?_
      exact f_M_moves_197 sp d N x0 x4 S _ h
    · rw [if_neg c28] at h
      refine pE_jump 2 (pc' := 172) (ls' := [some (.ref x0), none, none, none, some (.int x4), some (.int x5), some (.int x6)]) (st' := [.int x5, .ref x0]) (fun _ => rfl) ?_
      obtain ⟨⟨v23, S22⟩, hv23, h⟩ := obind h
      try dsimp only at h
      refine pE_iv (Bs := [.int x5]) (st := []) 1 rfl (Or.inl ⟨rfl, rfl⟩) rfl rfl (Nat.le_of_ble_eq_true rfl) (Nat.le_of_ble_eq_true rfl) (g_M_goesHome hv23) (f_M_goesHome sp (d + 2) N S x0 x5 _ hv23) ?_
      refine pE_br (¬ v23 = 0) rfl rfl (fun c27 => ?_) (fun c27 => ?_)
      · rw [if_neg c27] at h
        refine pE_weak [some (.ref x0), none, none, none, some (.int x4), some (.int x5), none] ⟨rfl, ⟨rfl, ⟨rfl, trivial⟩⟩⟩ ?_
        exact f_M_moves_187 sp d N rec164 x0 x4 x5 S22 hrec164 _ h
      · have c27 := Decidable.not_not.mp c27
        rw [if_pos c27] at h
        refine pE_jump 2 (pc' := 181) (ls' := [some (.ref x0), none, none, none, some (.int x4), some (.int x5), some (.int x6)]) (st' := [.int x5, .ref x0]) (fun _ => rfl) ?_
        obtain ⟨⟨v25, S24⟩, hv25, h⟩ := obind h
        try dsimp only at h
        refine pE_iv (Bs := [.int x5]) (st := []) 1 rfl (Or.inl ⟨rfl, rfl⟩) rfl rfl (Nat.le_of_ble_eq_true rfl) (Nat.le_of_ble_eq_true rfl) (g_M_givesWay hv25) (f_M_givesWay sp (d + 2) N S22 x0 x5 _ hv25) ?_
        refine pE_br (v25 = 0) rfl rfl (fun c26 => ?_) (fun c26 => ?_)
        · rw [if_pos c26] at h
          refine pE_jump 1 (pc' := 192) (ls' := [some (.ref x0), none, none, none, some (.int x4), some (.int x5), some (.int x6)]) (st' := [.int 0]) (fun _ => rfl) ?_
          refine pE_weak [some (.ref x0), none, none, none, some (.int x4), some (.int x5), none] ⟨rfl, ⟨rfl, ⟨rfl, trivial⟩⟩⟩ ?_
          exact f_M_moves_192 sp d N rec164 x0 x4 x5 0 S24 hrec164 _ h
        · rw [if_neg c26] at h
          refine pE_weak [some (.ref x0), none, none, none, some (.int x4), some (.int x5), none] ⟨rfl, ⟨rfl, ⟨rfl, trivial⟩⟩⟩ ?_
          exact f_M_moves_187 sp d N rec164 x0 x4 x5 S24 hrec164 _ h
def F_M_moves_156 (N : Nat)  (x0 : Nat) (x4 : Int32) (x5 : Int32) (S : pm_S) : Option (Int32 × pm_S) :=
    (wF S x0 11 57 .int (.int 0)).bind fun S13 =>
    F_M_moves_164 N x0 x4 x5 N 1 S13
set_option maxHeartbeats 4000000 in
set_option maxRecDepth 20000 in
theorem f_M_moves_156 (sp : pm_I → List Value → pm_S → pm_O → Prop) (d N : Nat)  (x0 : Nat) (x4 : Int32) (x5 : Int32) (S : pm_S)  (r : (Int32 × pm_S)) (h : F_M_moves_156 N  x0 x4 x5 S = some r) : pmE pG (pm_rel pG sp (d + 5)) mi_M_moves 156 [some (.ref x0), none, none, none, some (.int x4), some (.int x5), none] [] S (some (.int r.1), r.2) := by
  unfold F_M_moves_156 at h
  refine pE_jump 2 (pc' := 158) (ls' := [some (.ref x0), none, none, none, some (.int x4), some (.int x5), none]) (st' := [.int 0, .ref x0]) (fun _ => rfl) ?_
  obtain ⟨S13, hS13, h⟩ := obind h
  refine pE_pf rfl rfl rfl hS13 ?_
  refine pE_jump 2 (pc' := 164) (ls' := [some (.ref x0), none, none, none, some (.int x4), some (.int x5), some (.int 1)]) (st' := []) (fun _ => rfl) ?_
  exact f_M_moves_164 sp d N x0 x4 x5 N 1 S13 _ h
def B_M_moves_135 (N : Nat)  (rec135 : Int32 → pm_S → Option (Int32 × pm_S)) (x0 : Nat) (x4 : Int32) (x5 : Int32) (x6 : Int32) (S : pm_S) : Option (Int32 × pm_S) :=
    if 10 ≤ x6 then
    F_M_moves_156 N x0 x4 x5 S
    else
    ((oR S x0 11 55).bind fun oq29 => match oq29 with
    | none => none
    | some q29 =>
    (sI [2, 3] S q29 x6 0).bind fun S30 =>
    rec135 (x6 + 1) S30)
def F_M_moves_135 (N : Nat)  (x0 : Nat) (x4 : Int32) (x5 : Int32) : Nat → Int32 → pm_S → Option (Int32 × pm_S)
  | 0 => fun _ _ => none
  | n + 1 => fun x6 S => B_M_moves_135 N  (F_M_moves_135 N  x0 x4 x5 n) x0 x4 x5 x6 S
set_option maxHeartbeats 4000000 in
set_option maxRecDepth 20000 in
theorem f_M_moves_135 (sp : pm_I → List Value → pm_S → pm_O → Prop) (d N : Nat)  (x0 : Nat) (x4 : Int32) (x5 : Int32)  : ∀ (n : Nat) (x6 : Int32) (S : pm_S) (r : (Int32 × pm_S)), F_M_moves_135 N  x0 x4 x5 n x6 S = some r → pmE pG (pm_rel pG sp (d + 5)) mi_M_moves 135 [some (.ref x0), none, none, none, some (.int x4), some (.int x5), some (.int x6)] [] S (some (.int r.1), r.2) := by
  intro n
  induction n with
  | zero =>
    intro x6 S r h
    cases h
  | succ n ih =>
    intro x6 S r h
    replace h : B_M_moves_135 N  (F_M_moves_135 N  x0 x4 x5 n) x0 x4 x5 x6 S = some r := h
    have hrec135 := ih
    generalize F_M_moves_135 N  x0 x4 x5 n = rec135 at h hrec135
    unfold B_M_moves_135 at h
    refine pE_jump 2 (pc' := 139) (ls' := [some (.ref x0), none, none, none, some (.int x4), some (.int x5), some (.int x6)]) (st' := [.int 10, .int x6]) (fun _ => rfl) ?_
    refine pE_br (10 ≤ x6) rfl rfl (fun c31 => ?_) (fun c31 => ?_)
    · rw [if_pos c31] at h
      refine pE_weak [some (.ref x0), none, none, none, some (.int x4), some (.int x5), none] ⟨rfl, ⟨rfl, ⟨rfl, trivial⟩⟩⟩ ?_
      exact f_M_moves_156 sp d N x0 x4 x5 S _ h
    · rw [if_neg c31] at h
      refine pE_jump 1 (pc' := 143) (ls' := [some (.ref x0), none, none, none, some (.int x4), some (.int x5), some (.int x6)]) (st' := [.ref x0]) (fun _ => rfl) ?_
      obtain ⟨oq29, hq29, h⟩ := obind h
      cases oq29 with
      | none => cases h
      | some q29 =>
        try dsimp only at h
        refine pE_gfS rfl rfl hq29 ?_
        refine pE_jump 2 (pc' := 149) (ls' := [some (.ref x0), none, none, none, some (.int x4), some (.int x5), some (.int x6)]) (st' := [.int 0, .int x6, .ref q29]) (fun _ => rfl) ?_
        obtain ⟨S30, hS30, h⟩ := obind h
        refine pE_sI rfl rfl hS30 ?_
        refine pE_jump 2 (pc' := 135) (ls' := [some (.ref x0), none, none, none, some (.int x4), some (.int x5), some (.int (x6 + 1))]) (st' := []) (fun _ => rfl) ?_
        exact hrec135 (x6 + 1) S30 _ h
def F_M_moves_132 (N : Nat)  (x0 : Nat) (x4 : Int32) (x5 : Int32) (S : pm_S) : Option (Int32 × pm_S) :=
    F_M_moves_135 N x0 x4 x5 N 0 S
set_option maxHeartbeats 4000000 in
set_option maxRecDepth 20000 in
theorem f_M_moves_132 (sp : pm_I → List Value → pm_S → pm_O → Prop) (d N : Nat)  (x0 : Nat) (x4 : Int32) (x5 : Int32) (S : pm_S)  (r : (Int32 × pm_S)) (h : F_M_moves_132 N  x0 x4 x5 S = some r) : pmE pG (pm_rel pG sp (d + 5)) mi_M_moves 132 [some (.ref x0), none, none, none, some (.int x4), some (.int x5), none] [] S (some (.int r.1), r.2) := by
  unfold F_M_moves_132 at h
  refine pE_jump 2 (pc' := 135) (ls' := [some (.ref x0), none, none, none, some (.int x4), some (.int x5), some (.int 0)]) (st' := []) (fun _ => rfl) ?_
  exact f_M_moves_135 sp d N x0 x4 x5 N 0 S _ h
def F_M_moves_125_2 (N : Nat) (rec60 : Int32 → pm_S → Option (Int32 × pm_S)) (x0 : Nat) (x1 : Int32) (x4 : Int32) (x5 : Int32) (x6 : Int32) (t0 : Int32) (t1 : Int32) (t2 : Nat) (S : pm_S) : Option (Int32 × pm_S) :=
    (sI [2, 3] S t2 t1 t0).bind fun S41 =>
    rec60 (x6 + 1) S41
set_option maxHeartbeats 4000000 in
set_option maxRecDepth 20000 in
theorem f_M_moves_125_2 (sp : pm_I → List Value → pm_S → pm_O → Prop) (d N : Nat) (rec60 : Int32 → pm_S → Option (Int32 × pm_S)) (x0 : Nat) (x1 : Int32) (x4 : Int32) (x5 : Int32) (x6 : Int32) (t0 : Int32) (t1 : Int32) (t2 : Nat) (S : pm_S) (hrec60 : ∀ (y1 : Int32) (U : pm_S) (r : (Int32 × pm_S)), rec60 y1 U = some r → pmE pG (pm_rel pG sp (d + 5)) mi_M_moves 60 [some (.ref x0), some (.int x1), none, none, some (.int x4), some (.int x5), some (.int y1)] [] U (some (.int r.1), r.2)) (r : (Int32 × pm_S)) (h : F_M_moves_125_2 N rec60 x0 x1 x4 x5 x6 t0 t1 t2 S = some r) : pmE pG (pm_rel pG sp (d + 5)) mi_M_moves 125 [some (.ref x0), some (.int x1), none, none, some (.int x4), some (.int x5), some (.int x6)] [.int t0, .int t1, .ref t2] S (some (.int r.1), r.2) := by
  unfold F_M_moves_125_2 at h
  obtain ⟨S41, hS41, h⟩ := obind h
  refine pE_sI rfl rfl hS41 ?_
  refine pE_jump 2 (pc' := 60) (ls' := [some (.ref x0), some (.int x1), none, none, some (.int x4), some (.int x5), some (.int (x6 + 1))]) (st' := []) (fun _ => rfl) ?_
  exact hrec60 (x6 + 1) S41 _ h
def F_M_moves_124_2 (N : Nat) (rec60 : Int32 → pm_S → Option (Int32 × pm_S)) (x0 : Nat) (x1 : Int32) (x4 : Int32) (x5 : Int32) (x6 : Int32) (t0 : Int32) (t1 : Nat) (S : pm_S) : Option (Int32 × pm_S) :=
    F_M_moves_125_2 N rec60 x0 x1 x4 x5 x6 0 t0 t1 S
set_option maxHeartbeats 4000000 in
set_option maxRecDepth 20000 in
theorem f_M_moves_124_2 (sp : pm_I → List Value → pm_S → pm_O → Prop) (d N : Nat) (rec60 : Int32 → pm_S → Option (Int32 × pm_S)) (x0 : Nat) (x1 : Int32) (x4 : Int32) (x5 : Int32) (x6 : Int32) (t0 : Int32) (t1 : Nat) (S : pm_S) (hrec60 : ∀ (y1 : Int32) (U : pm_S) (r : (Int32 × pm_S)), rec60 y1 U = some r → pmE pG (pm_rel pG sp (d + 5)) mi_M_moves 60 [some (.ref x0), some (.int x1), none, none, some (.int x4), some (.int x5), some (.int y1)] [] U (some (.int r.1), r.2)) (r : (Int32 × pm_S)) (h : F_M_moves_124_2 N rec60 x0 x1 x4 x5 x6 t0 t1 S = some r) : pmE pG (pm_rel pG sp (d + 5)) mi_M_moves 124 [some (.ref x0), some (.int x1), none, none, some (.int x4), some (.int x5), some (.int x6)] [.int t0, .ref t1] S (some (.int r.1), r.2) := by
  unfold F_M_moves_124_2 at h
  refine pE_jump 1 (pc' := 125) (ls' := [some (.ref x0), some (.int x1), none, none, some (.int x4), some (.int x5), some (.int x6)]) (st' := [.int 0, .int t0, .ref t1]) (fun _ => rfl) ?_
  exact f_M_moves_125_2 sp d N rec60 x0 x1 x4 x5 x6 0 t0 t1 S hrec60 _ h
def B_M_moves_60 (N : Nat)  (rec60 : Int32 → pm_S → Option (Int32 × pm_S)) (x0 : Nat) (x1 : Int32) (x4 : Int32) (x5 : Int32) (x6 : Int32) (S : pm_S) : Option (Int32 × pm_S) :=
    if 6 ≤ x6 then
    F_M_moves_132 N x0 x4 x5 S
    else
    ((oR S x0 11 54).bind fun oq32 => match oq32 with
    | none => none
    | some q32 =>
    (oR S x0 11 10).bind fun oq39 => match oq39 with
    | none => none
    | some q39 =>
    (aI [0, 6] S q39 ((7 * x1) + x5)).bind fun v40 =>
    if v40 ≤ x6 then
    F_M_moves_124_2 N rec60 x0 x1 x4 x5 x6 x6 q32 S
    else
    ((oR S x0 11 26).bind fun oq42 => match oq42 with
    | none => none
    | some q42 =>
    (aI [0, 6] S q42 ((6 * x5) + x6)).bind fun v43 =>
    if v43 = (-1) then
    ((F_M_feeds N S x0 x5 x6).bind fun (v45, S44) =>
    if (lg_cmp v45 0) = 0 then
    F_M_moves_124_2 N rec60 x0 x1 x4 x5 x6 x6 q32 S44
    else
    F_M_moves_125_2 N rec60 x0 x1 x4 x5 x6 1 x6 q32 S44)
    else
    F_M_moves_124_2 N rec60 x0 x1 x4 x5 x6 x6 q32 S))
def F_M_moves_60 (N : Nat)  (x0 : Nat) (x1 : Int32) (x4 : Int32) (x5 : Int32) : Nat → Int32 → pm_S → Option (Int32 × pm_S)
  | 0 => fun _ _ => none
  | n + 1 => fun x6 S => B_M_moves_60 N  (F_M_moves_60 N  x0 x1 x4 x5 n) x0 x1 x4 x5 x6 S
set_option maxHeartbeats 4000000 in
set_option maxRecDepth 20000 in
theorem f_M_moves_60 (sp : pm_I → List Value → pm_S → pm_O → Prop) (d N : Nat)  (x0 : Nat) (x1 : Int32) (x4 : Int32) (x5 : Int32)  : ∀ (n : Nat) (x6 : Int32) (S : pm_S) (r : (Int32 × pm_S)), F_M_moves_60 N  x0 x1 x4 x5 n x6 S = some r → pmE pG (pm_rel pG sp (d + 5)) mi_M_moves 60 [some (.ref x0), some (.int x1), none, none, some (.int x4), some (.int x5), some (.int x6)] [] S (some (.int r.1), r.2) := by
  intro n
  induction n with
  | zero =>
    intro x6 S r h
    cases h
  | succ n ih =>
    intro x6 S r h
    replace h : B_M_moves_60 N  (F_M_moves_60 N  x0 x1 x4 x5 n) x0 x1 x4 x5 x6 S = some r := h
    have hrec60 := ih
    generalize F_M_moves_60 N  x0 x1 x4 x5 n = rec60 at h hrec60
    unfold B_M_moves_60 at h
    refine pE_jump 2 (pc' := 64) (ls' := [some (.ref x0), some (.int x1), none, none, some (.int x4), some (.int x5), some (.int x6)]) (st' := [.int 6, .int x6]) (fun _ => rfl) ?_
    refine pE_br (6 ≤ x6) rfl rfl (fun c49 => ?_) (fun c49 => ?_)
    · rw [if_pos c49] at h
      refine pE_weak [some (.ref x0), none, none, none, some (.int x4), some (.int x5), none] ⟨rfl, ⟨rfl, ⟨rfl, trivial⟩⟩⟩ ?_
      exact f_M_moves_132 sp d N x0 x4 x5 S _ h
    · rw [if_neg c49] at h
      refine pE_jump 1 (pc' := 68) (ls' := [some (.ref x0), some (.int x1), none, none, some (.int x4), some (.int x5), some (.int x6)]) (st' := [.ref x0]) (fun _ => rfl) ?_
      obtain ⟨oq32, hq32, h⟩ := obind h
      cases oq32 with
      | none => cases h
      | some q32 =>
        try dsimp only at h
        refine pE_gfS rfl rfl hq32 ?_
        refine pE_jump 3 (pc' := 76) (ls' := [some (.ref x0), some (.int x1), none, none, some (.int x4), some (.int x5), some (.int x6)]) (st' := [.ref x0, .int x6, .int x6, .ref q32]) (fun _ => rfl) ?_
        obtain ⟨oq39, hq39, h⟩ := obind h
        cases oq39 with
        | none => cases h
        | some q39 =>
          try dsimp only at h
          refine pE_gfS rfl rfl hq39 ?_
          refine pE_jump 5 (pc' := 86) (ls' := [some (.ref x0), some (.int x1), none, none, some (.int x4), some (.int x5), some (.int x6)]) (st' := [.int ((7 * x1) + x5), .ref q39, .int x6, .int x6, .ref q32]) (fun _ => rfl) ?_
          obtain ⟨v40, hv40, h⟩ := obind h
          refine pE_aI rfl rfl hv40 ?_
          refine pE_br (v40 ≤ x6) rfl rfl (fun c48 => ?_) (fun c48 => ?_)
          · rw [if_pos c48] at h
            exact f_M_moves_124_2 sp d N rec60 x0 x1 x4 x5 x6 x6 q32 S hrec60 _ h
          · rw [if_neg c48] at h
            refine pE_jump 1 (pc' := 91) (ls' := [some (.ref x0), some (.int x1), none, none, some (.int x4), some (.int x5), some (.int x6)]) (st' := [.ref x0, .int x6, .ref q32]) (fun _ => rfl) ?_
            obtain ⟨oq42, hq42, h⟩ := obind h
            cases oq42 with
            | none => cases h
            | some q42 =>
              try dsimp only at h
              refine pE_gfS rfl rfl hq42 ?_
              refine pE_jump 5 (pc' := 102) (ls' := [some (.ref x0), some (.int x1), none, none, some (.int x4), some (.int x5), some (.int x6)]) (st' := [.int ((6 * x5) + x6), .ref q42, .int x6, .ref q32]) (fun _ => rfl) ?_
              obtain ⟨v43, hv43, h⟩ := obind h
              refine pE_aI rfl rfl hv43 ?_
              refine pE_jump 1 (pc' := 104) (ls' := [some (.ref x0), some (.int x1), none, none, some (.int x4), some (.int x5), some (.int x6)]) (st' := [.int (-1), .int v43, .int x6, .ref q32]) (fun _ => rfl) ?_
              refine pE_br (¬ v43 = (-1)) rfl rfl (fun c47 => ?_) (fun c47 => ?_)
              · rw [if_neg c47] at h
                exact f_M_moves_124_2 sp d N rec60 x0 x1 x4 x5 x6 x6 q32 S hrec60 _ h
              · have c47 := Decidable.not_not.mp c47
                rw [if_pos c47] at h
                refine pE_jump 3 (pc' := 112) (ls' := [some (.ref x0), some (.int x1), none, none, some (.int x4), some (.int x5), some (.int x6)]) (st' := [.int x6, .int x5, .ref x0, .int x6, .ref q32]) (fun _ => rfl) ?_
                obtain ⟨⟨v45, S44⟩, hv45, h⟩ := obind h
                try dsimp only at h
                refine pE_iv (Bs := [.int x5, .int x6]) (st := [.int x6, .ref q32]) 1 rfl (Or.inl ⟨rfl, rfl⟩) rfl rfl (Nat.le_of_ble_eq_true rfl) (Nat.le_of_ble_eq_true rfl) (g_M_feeds hv45) (f_M_feeds sp d N S x0 x5 x6 _ hv45) ?_
                refine pE_jump 2 (pc' := 117) (ls' := [some (.ref x0), some (.int x1), none, none, some (.int x4), some (.int x5), some (.int x6)]) (st' := [.int (lg_cmp v45 0), .int x6, .ref q32]) (fun _ => rfl) ?_
                refine pE_br ((lg_cmp v45 0) = 0) rfl rfl (fun c46 => ?_) (fun c46 => ?_)
                · rw [if_pos c46] at h
                  exact f_M_moves_124_2 sp d N rec60 x0 x1 x4 x5 x6 x6 q32 S44 hrec60 _ h
                · rw [if_neg c46] at h
                  refine pE_jump 2 (pc' := 125) (ls' := [some (.ref x0), some (.int x1), none, none, some (.int x4), some (.int x5), some (.int x6)]) (st' := [.int 1, .int x6, .ref q32]) (fun _ => rfl) ?_
                  exact f_M_moves_125_2 sp d N rec60 x0 x1 x4 x5 x6 1 x6 q32 S44 hrec60 _ h
def F_M_moves (N : Nat) (S : pm_S) (a : Nat) (p0 : Int32) (p1 : Int32) (p2 : Int32) (p3 : Int32) : Option (Int32 × pm_S) :=
    if rcv S a 11 = true then
    ((wF S a 11 0 .int (.int 0)).bind fun S1 =>
    (F_M_isWorld N S1 a p0 p1).bind fun (v3, S2) =>
    if v3 = 0 then
    F_M_moves_40 N S2
    else
    ((oR S2 a 11 6).bind fun oq4 => match oq4 with
    | none => none
    | some q4 =>
    (aI [0, 6] S2 q4 p0).bind fun v5 =>
    (F_M_isIn N S2 p2 0 (v5 - 1)).bind fun (v7, S6) =>
    if v7 = 0 then
    F_M_moves_40 N S6
    else
    ((F_M_comesTo N S6 a p0 p2).bind fun (v9, S8) =>
    if v9 = (-1) then
    F_M_moves_40 N S8
    else
    ((F_M_comesTo N S8 a p0 p2).bind fun (v11, S10) =>
    (F_M_lay N S10 a p0 p1 0).bind fun S12 =>
    F_M_moves_60 N a p0 p3 v11 N 0 S12))))
    else none
theorem g_M_moves {N : Nat} {S : pm_S} {a : Nat} {p0 : Int32} {p1 : Int32} {p2 : Int32} {p3 : Int32} {r : (Int32 × pm_S)} (h : F_M_moves N S a p0 p1 p2 p3 = some r) : rcv S a 11 = true := by
  unfold F_M_moves at h
  by_cases c : rcv S a 11 = true
  · exact c
  · rw [if_neg c] at h; cases h
set_option maxHeartbeats 4000000 in
set_option maxRecDepth 20000 in
theorem f_M_moves (sp : pm_I → List Value → pm_S → pm_O → Prop) (d N : Nat) (S : pm_S) (a : Nat) (p0 : Int32) (p1 : Int32) (p2 : Int32) (p3 : Int32) (r : (Int32 × pm_S)) (h : F_M_moves N S a p0 p1 p2 p3 = some r) : pm_rel pG sp (d + 6) mi_M_moves [.ref a, .int p0, .int p1, .int p2, .int p3] S (some (.int r.1), r.2) := by
  have hg := g_M_moves h
  unfold F_M_moves at h
  rw [if_pos hg] at h
  refine pE_rel (d := d + 5) ?_
  show pmE pG _ mi_M_moves 0 [some (.ref a), some (.int p0), some (.int p1), some (.int p2), some (.int p3), none, none] [] S _
  refine pE_jump 2 (pc' := 2) (ls' := [some (.ref a), some (.int p0), some (.int p1), some (.int p2), some (.int p3), none, none]) (st' := [.int 0, .ref a]) (fun _ => rfl) ?_
  obtain ⟨S1, hS1, h⟩ := obind h
  refine pE_pf rfl rfl rfl hS1 ?_
  refine pE_jump 3 (pc' := 8) (ls' := [some (.ref a), some (.int p0), some (.int p1), some (.int p2), some (.int p3), none, none]) (st' := [.int p1, .int p0, .ref a]) (fun _ => rfl) ?_
  obtain ⟨⟨v3, S2⟩, hv3, h⟩ := obind h
  try dsimp only at h
  refine pE_iv (Bs := [.int p0, .int p1]) (st := []) 1 rfl (Or.inl ⟨rfl, rfl⟩) rfl rfl (Nat.le_of_ble_eq_true rfl) (Nat.le_of_ble_eq_true rfl) (g_M_isWorld hv3) (f_M_isWorld sp (d + 3) N S1 a p0 p1 _ hv3) ?_
  refine pE_br (v3 = 0) rfl rfl (fun c52 => ?_) (fun c52 => ?_)
  · rw [if_pos c52] at h
    refine pE_weak [none, none, none, none, none, none, none] trivial ?_
    exact f_M_moves_40 sp d N S2 _ h
  · rw [if_neg c52] at h
    refine pE_jump 3 (pc' := 17) (ls' := [some (.ref a), some (.int p0), some (.int p1), some (.int p2), some (.int p3), none, none]) (st' := [.ref a, .int 0, .int p2]) (fun _ => rfl) ?_
    obtain ⟨oq4, hq4, h⟩ := obind h
    cases oq4 with
    | none => cases h
    | some q4 =>
      try dsimp only at h
      refine pE_gfS rfl rfl hq4 ?_
      refine pE_jump 1 (pc' := 21) (ls' := [some (.ref a), some (.int p0), some (.int p1), some (.int p2), some (.int p3), none, none]) (st' := [.int p0, .ref q4, .int 0, .int p2]) (fun _ => rfl) ?_
      obtain ⟨v5, hv5, h⟩ := obind h
      refine pE_aI rfl rfl hv5 ?_
      refine pE_jump 2 (pc' := 24) (ls' := [some (.ref a), some (.int p0), some (.int p1), some (.int p2), some (.int p3), none, none]) (st' := [.int (v5 - 1), .int 0, .int p2]) (fun _ => rfl) ?_
      obtain ⟨⟨v7, S6⟩, hv7, h⟩ := obind h
      try dsimp only at h
      refine pE_is (Bs := [.int p2, .int 0, .int (v5 - 1)]) (st := []) rfl rfl rfl (Nat.le_of_ble_eq_true rfl) (Nat.le_of_ble_eq_true rfl) (f_M_isIn sp (d + 4) N S2 p2 0 (v5 - 1) _ hv7) ?_
      refine pE_br (v7 = 0) rfl rfl (fun c51 => ?_) (fun c51 => ?_)
      · rw [if_pos c51] at h
        refine pE_weak [none, none, none, none, none, none, none] trivial ?_
        exact f_M_moves_40 sp d N S6 _ h
      · rw [if_neg c51] at h
        refine pE_jump 3 (pc' := 33) (ls' := [some (.ref a), some (.int p0), some (.int p1), some (.int p2), some (.int p3), none, none]) (st' := [.int p2, .int p0, .ref a]) (fun _ => rfl) ?_
        obtain ⟨⟨v9, S8⟩, hv9, h⟩ := obind h
        try dsimp only at h
        refine pE_iv (Bs := [.int p0, .int p2]) (st := []) 1 rfl (Or.inl ⟨rfl, rfl⟩) rfl rfl (Nat.le_of_ble_eq_true rfl) (Nat.le_of_ble_eq_true rfl) (g_M_comesTo hv9) (f_M_comesTo sp (d + 4) N S6 a p0 p2 _ hv9) ?_
        refine pE_jump 1 (pc' := 37) (ls' := [some (.ref a), some (.int p0), some (.int p1), some (.int p2), some (.int p3), none, none]) (st' := [.int (-1), .int v9]) (fun _ => rfl) ?_
        refine pE_br (¬ v9 = (-1)) rfl rfl (fun c50 => ?_) (fun c50 => ?_)
        · rw [if_neg c50] at h
          refine pE_jump 3 (pc' := 45) (ls' := [some (.ref a), some (.int p0), some (.int p1), some (.int p2), some (.int p3), none, none]) (st' := [.int p2, .int p0, .ref a]) (fun _ => rfl) ?_
          obtain ⟨⟨v11, S10⟩, hv11, h⟩ := obind h
          try dsimp only at h
          refine pE_iv (Bs := [.int p0, .int p2]) (st := []) 1 rfl (Or.inl ⟨rfl, rfl⟩) rfl rfl (Nat.le_of_ble_eq_true rfl) (Nat.le_of_ble_eq_true rfl) (g_M_comesTo hv11) (f_M_comesTo sp (d + 4) N S8 a p0 p2 _ hv11) ?_
          refine pE_jump 5 (pc' := 54) (ls' := [some (.ref a), some (.int p0), some (.int p1), some (.int p2), some (.int p3), some (.int v11), none]) (st' := [.int 0, .int p1, .int p0, .ref a]) (fun _ => rfl) ?_
          obtain ⟨S12, hS12, h⟩ := obind h
          refine pE_iv (Bs := [.int p0, .int p1, .int 0]) (st := []) 1 rfl (Or.inl ⟨rfl, rfl⟩) rfl rfl (Nat.le_of_ble_eq_true rfl) (Nat.le_of_ble_eq_true rfl) (g_M_lay hS12) (f_M_lay sp (d + 2) N S10 a p0 p1 0 _ hS12) ?_
          refine pE_jump 2 (pc' := 60) (ls' := [some (.ref a), some (.int p0), some (.int p1), some (.int p2), some (.int p3), some (.int v11), some (.int 0)]) (st' := []) (fun _ => rfl) ?_
          refine pE_weak [some (.ref a), some (.int p0), none, none, some (.int p3), some (.int v11), some (.int 0)] ⟨rfl, ⟨rfl, ⟨rfl, ⟨rfl, ⟨rfl, trivial⟩⟩⟩⟩⟩ ?_
          exact f_M_moves_60 sp d N a p0 p3 v11 N 0 S12 _ h
        · have c50 := Decidable.not_not.mp c50
          rw [if_pos c50] at h
          refine pE_weak [none, none, none, none, none, none, none] trivial ?_
          exact f_M_moves_40 sp d N S8 _ h
def F_M_count_147 (N : Nat)  (t0 : Int32) (S : pm_S) : Option (Int32 × pm_S) :=
    some (t0, S)
set_option maxHeartbeats 4000000 in
set_option maxRecDepth 20000 in
theorem f_M_count_147 (sp : pm_I → List Value → pm_S → pm_O → Prop) (d N : Nat)  (t0 : Int32) (S : pm_S)  (r : (Int32 × pm_S)) (h : F_M_count_147 N  t0 S = some r) : pmE pG (pm_rel pG sp (d + 0)) mi_M_count 147 [none, none] [.int t0] S (some (.int r.1), r.2) := by
  unfold F_M_count_147 at h
  cases h
  exact pE_ret rfl rfl rfl
def F_M_count_129 (N : Nat)  (t0 : Int32) (S : pm_S) : Option (Int32 × pm_S) :=
    some (t0, S)
set_option maxHeartbeats 4000000 in
set_option maxRecDepth 20000 in
theorem f_M_count_129 (sp : pm_I → List Value → pm_S → pm_O → Prop) (d N : Nat)  (t0 : Int32) (S : pm_S)  (r : (Int32 × pm_S)) (h : F_M_count_129 N  t0 S = some r) : pmE pG (pm_rel pG sp (d + 0)) mi_M_count 129 [none, none] [.int t0] S (some (.int r.1), r.2) := by
  unfold F_M_count_129 at h
  cases h
  exact pE_ret rfl rfl rfl
def F_M_count_111 (N : Nat)  (t0 : Int32) (S : pm_S) : Option (Int32 × pm_S) :=
    some (t0, S)
set_option maxHeartbeats 4000000 in
set_option maxRecDepth 20000 in
theorem f_M_count_111 (sp : pm_I → List Value → pm_S → pm_O → Prop) (d N : Nat)  (t0 : Int32) (S : pm_S)  (r : (Int32 × pm_S)) (h : F_M_count_111 N  t0 S = some r) : pmE pG (pm_rel pG sp (d + 0)) mi_M_count 111 [none, none] [.int t0] S (some (.int r.1), r.2) := by
  unfold F_M_count_111 at h
  cases h
  exact pE_ret rfl rfl rfl
def F_M_count_93 (N : Nat)  (t0 : Int32) (S : pm_S) : Option (Int32 × pm_S) :=
    some (t0, S)
set_option maxHeartbeats 4000000 in
set_option maxRecDepth 20000 in
theorem f_M_count_93 (sp : pm_I → List Value → pm_S → pm_O → Prop) (d N : Nat)  (t0 : Int32) (S : pm_S)  (r : (Int32 × pm_S)) (h : F_M_count_93 N  t0 S = some r) : pmE pG (pm_rel pG sp (d + 0)) mi_M_count 93 [none, none] [.int t0] S (some (.int r.1), r.2) := by
  unfold F_M_count_93 at h
  cases h
  exact pE_ret rfl rfl rfl
def F_M_count_75 (N : Nat)  (t0 : Int32) (S : pm_S) : Option (Int32 × pm_S) :=
    some (t0, S)
set_option maxHeartbeats 4000000 in
set_option maxRecDepth 20000 in
theorem f_M_count_75 (sp : pm_I → List Value → pm_S → pm_O → Prop) (d N : Nat)  (t0 : Int32) (S : pm_S)  (r : (Int32 × pm_S)) (h : F_M_count_75 N  t0 S = some r) : pmE pG (pm_rel pG sp (d + 0)) mi_M_count 75 [none, none] [.int t0] S (some (.int r.1), r.2) := by
  unfold F_M_count_75 at h
  cases h
  exact pE_ret rfl rfl rfl
def F_M_count (N : Nat) (S : pm_S) (a : Nat) (p0 : Int32) : Option (Int32 × pm_S) :=
    if rcv S a 11 = true then
    ((wF S a 11 0 .int (.int 0)).bind fun S1 =>
    if p0 = 0 then
    ((oI S1 a 11 19).bind fun v30 =>
    some (v30, S1))
    else
    (if p0 = 1 then
    ((oI S1 a 11 2).bind fun v29 =>
    some (v29, S1))
    else
    (if p0 = 2 then
    ((oI S1 a 11 19).bind fun v25 =>
    if v25 = 0 then
    F_M_count_75 N 0 S1
    else
    ((oR S1 a 11 6).bind fun oq26 => match oq26 with
    | none => none
    | some q26 =>
    (aI [0, 6] S1 q26 0).bind fun v27 =>
    F_M_count_75 N v27 S1))
    else
    (if p0 = 3 then
    ((oI S1 a 11 19).bind fun v21 =>
    if v21 = 0 then
    F_M_count_93 N 0 S1
    else
    ((oR S1 a 11 7).bind fun oq22 => match oq22 with
    | none => none
    | some q22 =>
    (aI [0, 6] S1 q22 0).bind fun v23 =>
    F_M_count_93 N v23 S1))
    else
    (if p0 = 4 then
    ((oI S1 a 11 19).bind fun v17 =>
    if v17 = 0 then
    F_M_count_111 N 0 S1
    else
    ((oR S1 a 11 18).bind fun oq18 => match oq18 with
    | none => none
    | some q18 =>
    (aI [0, 6] S1 q18 0).bind fun v19 =>
    F_M_count_111 N v19 S1))
    else
    (if p0 = 5 then
    ((oI S1 a 11 19).bind fun v13 =>
    if v13 = 0 then
    F_M_count_129 N 0 S1
    else
    ((oR S1 a 11 37).bind fun oq14 => match oq14 with
    | none => none
    | some q14 =>
    (aI [0, 6] S1 q14 0).bind fun v15 =>
    F_M_count_129 N v15 S1))
    else
    (if p0 = 6 then
    ((oI S1 a 11 19).bind fun v9 =>
    if v9 = 0 then
    F_M_count_147 N 0 S1
    else
    ((oR S1 a 11 44).bind fun oq10 => match oq10 with
    | none => none
    | some q10 =>
    (aI [0, 6] S1 q10 0).bind fun v11 =>
    F_M_count_147 N v11 S1))
    else
    some ((-1), S1))))))))
    else none
theorem g_M_count {N : Nat} {S : pm_S} {a : Nat} {p0 : Int32} {r : (Int32 × pm_S)} (h : F_M_count N S a p0 = some r) : rcv S a 11 = true := by
  unfold F_M_count at h
  by_cases c : rcv S a 11 = true
  · exact c
  · rw [if_neg c] at h; cases h
set_option maxHeartbeats 4000000 in
set_option maxRecDepth 20000 in
theorem f_M_count (sp : pm_I → List Value → pm_S → pm_O → Prop) (d N : Nat) (S : pm_S) (a : Nat) (p0 : Int32) (r : (Int32 × pm_S)) (h : F_M_count N S a p0 = some r) : pm_rel pG sp (d + 1) mi_M_count [.ref a, .int p0] S (some (.int r.1), r.2) := by
  have hg := g_M_count h
  unfold F_M_count at h
  rw [if_pos hg] at h
  refine pE_rel (d := d + 0) ?_
  show pmE pG _ mi_M_count 0 [some (.ref a), some (.int p0)] [] S _
  refine pE_jump 2 (pc' := 2) (ls' := [some (.ref a), some (.int p0)]) (st' := [.int 0, .ref a]) (fun _ => rfl) ?_
  obtain ⟨S1, hS1, h⟩ := obind h
  refine pE_pf rfl rfl rfl hS1 ?_
  refine pE_jump 1 (pc' := 6) (ls' := [some (.ref a), some (.int p0)]) (st' := [.int p0]) (fun _ => rfl) ?_
  by_cases c2 : p0 = 0
  · rw [if_pos c2] at h
    refine pE_nx (pc' := 48) (ls' := [some (.ref a), some (.int p0)]) (st' := []) (S' := S1) rfl (by rw [c2]; rfl) ?_
    refine pE_jump 1 (pc' := 49) (ls' := [some (.ref a), some (.int p0)]) (st' := [.ref a]) (fun _ => rfl) ?_
    obtain ⟨v30, hv30, h⟩ := obind h
    refine pE_gfI rfl rfl hv30 ?_
    cases h
    exact pE_ret rfl rfl rfl
  · rw [if_neg c2] at h
    by_cases c3 : p0 = 1
    · rw [if_pos c3] at h
      refine pE_nx (pc' := 53) (ls' := [some (.ref a), some (.int p0)]) (st' := []) (S' := S1) rfl (by rw [c3]; rfl) ?_
      refine pE_jump 1 (pc' := 54) (ls' := [some (.ref a), some (.int p0)]) (st' := [.ref a]) (fun _ => rfl) ?_
      obtain ⟨v29, hv29, h⟩ := obind h
      refine pE_gfI rfl rfl hv29 ?_
      cases h
      exact pE_ret rfl rfl rfl
    · rw [if_neg c3] at h
      by_cases c4 : p0 = 2
      · rw [if_pos c4] at h
        refine pE_nx (pc' := 58) (ls' := [some (.ref a), some (.int p0)]) (st' := []) (S' := S1) rfl (by rw [c4]; rfl) ?_
        refine pE_jump 1 (pc' := 59) (ls' := [some (.ref a), some (.int p0)]) (st' := [.ref a]) (fun _ => rfl) ?_
        obtain ⟨v25, hv25, h⟩ := obind h
        refine pE_gfI rfl rfl hv25 ?_
        refine pE_br (¬ v25 = 0) rfl rfl (fun c28 => ?_) (fun c28 => ?_)
        · rw [if_neg c28] at h
          refine pE_jump 1 (pc' := 70) (ls' := [some (.ref a), some (.int p0)]) (st' := [.ref a]) (fun _ => rfl) ?_
          obtain ⟨oq26, hq26, h⟩ := obind h
          cases oq26 with
          | none => cases h
          | some q26 =>
            try dsimp only at h
            refine pE_gfS rfl rfl hq26 ?_
            refine pE_jump 1 (pc' := 74) (ls' := [some (.ref a), some (.int p0)]) (st' := [.int 0, .ref q26]) (fun _ => rfl) ?_
            obtain ⟨v27, hv27, h⟩ := obind h
            refine pE_aI rfl rfl hv27 ?_
            refine pE_weak [none, none] trivial ?_
            exact f_M_count_75 sp d N v27 S1 _ h
        · have c28 := Decidable.not_not.mp c28
          rw [if_pos c28] at h
          refine pE_jump 2 (pc' := 75) (ls' := [some (.ref a), some (.int p0)]) (st' := [.int 0]) (fun _ => rfl) ?_
          refine pE_weak [none, none] trivial ?_
          exact f_M_count_75 sp d N 0 S1 _ h
      · rw [if_neg c4] at h
        by_cases c5 : p0 = 3
        · rw [if_pos c5] at h
          refine pE_nx (pc' := 76) (ls' := [some (.ref a), some (.int p0)]) (st' := []) (S' := S1) rfl (by rw [c5]; rfl) ?_
          refine pE_jump 1 (pc' := 77) (ls' := [some (.ref a), some (.int p0)]) (st' := [.ref a]) (fun _ => rfl) ?_
          obtain ⟨v21, hv21, h⟩ := obind h
          refine pE_gfI rfl rfl hv21 ?_
          refine pE_br (¬ v21 = 0) rfl rfl (fun c24 => ?_) (fun c24 => ?_)
          · rw [if_neg c24] at h
            refine pE_jump 1 (pc' := 88) (ls' := [some (.ref a), some (.int p0)]) (st' := [.ref a]) (fun _ => rfl) ?_
            obtain ⟨oq22, hq22, h⟩ := obind h
            cases oq22 with
            | none => cases h
            | some q22 =>
              try dsimp only at h
              refine pE_gfS rfl rfl hq22 ?_
              refine pE_jump 1 (pc' := 92) (ls' := [some (.ref a), some (.int p0)]) (st' := [.int 0, .ref q22]) (fun _ => rfl) ?_
              obtain ⟨v23, hv23, h⟩ := obind h
              refine pE_aI rfl rfl hv23 ?_
              refine pE_weak [none, none] trivial ?_
              exact f_M_count_93 sp d N v23 S1 _ h
          · have c24 := Decidable.not_not.mp c24
            rw [if_pos c24] at h
            refine pE_jump 2 (pc' := 93) (ls' := [some (.ref a), some (.int p0)]) (st' := [.int 0]) (fun _ => rfl) ?_
            refine pE_weak [none, none] trivial ?_
            exact f_M_count_93 sp d N 0 S1 _ h
        · rw [if_neg c5] at h
          by_cases c6 : p0 = 4
          · rw [if_pos c6] at h
            refine pE_nx (pc' := 94) (ls' := [some (.ref a), some (.int p0)]) (st' := []) (S' := S1) rfl (by rw [c6]; rfl) ?_
            refine pE_jump 1 (pc' := 95) (ls' := [some (.ref a), some (.int p0)]) (st' := [.ref a]) (fun _ => rfl) ?_
            obtain ⟨v17, hv17, h⟩ := obind h
            refine pE_gfI rfl rfl hv17 ?_
            refine pE_br (¬ v17 = 0) rfl rfl (fun c20 => ?_) (fun c20 => ?_)
            · rw [if_neg c20] at h
              refine pE_jump 1 (pc' := 106) (ls' := [some (.ref a), some (.int p0)]) (st' := [.ref a]) (fun _ => rfl) ?_
              obtain ⟨oq18, hq18, h⟩ := obind h
              cases oq18 with
              | none => cases h
              | some q18 =>
                try dsimp only at h
                refine pE_gfS rfl rfl hq18 ?_
                refine pE_jump 1 (pc' := 110) (ls' := [some (.ref a), some (.int p0)]) (st' := [.int 0, .ref q18]) (fun _ => rfl) ?_
                obtain ⟨v19, hv19, h⟩ := obind h
                refine pE_aI rfl rfl hv19 ?_
                refine pE_weak [none, none] trivial ?_
                exact f_M_count_111 sp d N v19 S1 _ h
            · have c20 := Decidable.not_not.mp c20
              rw [if_pos c20] at h
              refine pE_jump 2 (pc' := 111) (ls' := [some (.ref a), some (.int p0)]) (st' := [.int 0]) (fun _ => rfl) ?_
              refine pE_weak [none, none] trivial ?_
              exact f_M_count_111 sp d N 0 S1 _ h
          · rw [if_neg c6] at h
            by_cases c7 : p0 = 5
            · rw [if_pos c7] at h
              refine pE_nx (pc' := 112) (ls' := [some (.ref a), some (.int p0)]) (st' := []) (S' := S1) rfl (by rw [c7]; rfl) ?_
              refine pE_jump 1 (pc' := 113) (ls' := [some (.ref a), some (.int p0)]) (st' := [.ref a]) (fun _ => rfl) ?_
              obtain ⟨v13, hv13, h⟩ := obind h
              refine pE_gfI rfl rfl hv13 ?_
              refine pE_br (¬ v13 = 0) rfl rfl (fun c16 => ?_) (fun c16 => ?_)
              · rw [if_neg c16] at h
                refine pE_jump 1 (pc' := 124) (ls' := [some (.ref a), some (.int p0)]) (st' := [.ref a]) (fun _ => rfl) ?_
                obtain ⟨oq14, hq14, h⟩ := obind h
                cases oq14 with
                | none => cases h
                | some q14 =>
                  try dsimp only at h
                  refine pE_gfS rfl rfl hq14 ?_
                  refine pE_jump 1 (pc' := 128) (ls' := [some (.ref a), some (.int p0)]) (st' := [.int 0, .ref q14]) (fun _ => rfl) ?_
                  obtain ⟨v15, hv15, h⟩ := obind h
                  refine pE_aI rfl rfl hv15 ?_
                  refine pE_weak [none, none] trivial ?_
                  exact f_M_count_129 sp d N v15 S1 _ h
              · have c16 := Decidable.not_not.mp c16
                rw [if_pos c16] at h
                refine pE_jump 2 (pc' := 129) (ls' := [some (.ref a), some (.int p0)]) (st' := [.int 0]) (fun _ => rfl) ?_
                refine pE_weak [none, none] trivial ?_
                exact f_M_count_129 sp d N 0 S1 _ h
            · rw [if_neg c7] at h
              by_cases c8 : p0 = 6
              · rw [if_pos c8] at h
                refine pE_nx (pc' := 130) (ls' := [some (.ref a), some (.int p0)]) (st' := []) (S' := S1) rfl (by rw [c8]; rfl) ?_
                refine pE_jump 1 (pc' := 131) (ls' := [some (.ref a), some (.int p0)]) (st' := [.ref a]) (fun _ => rfl) ?_
                obtain ⟨v9, hv9, h⟩ := obind h
                refine pE_gfI rfl rfl hv9 ?_
                refine pE_br (¬ v9 = 0) rfl rfl (fun c12 => ?_) (fun c12 => ?_)
                · rw [if_neg c12] at h
                  refine pE_jump 1 (pc' := 142) (ls' := [some (.ref a), some (.int p0)]) (st' := [.ref a]) (fun _ => rfl) ?_
                  obtain ⟨oq10, hq10, h⟩ := obind h
                  cases oq10 with
                  | none => cases h
                  | some q10 =>
                    try dsimp only at h
                    refine pE_gfS rfl rfl hq10 ?_
                    refine pE_jump 1 (pc' := 146) (ls' := [some (.ref a), some (.int p0)]) (st' := [.int 0, .ref q10]) (fun _ => rfl) ?_
                    obtain ⟨v11, hv11, h⟩ := obind h
                    refine pE_aI rfl rfl hv11 ?_
                    refine pE_weak [none, none] trivial ?_
                    exact f_M_count_147 sp d N v11 S1 _ h
                · have c12 := Decidable.not_not.mp c12
                  rw [if_pos c12] at h
                  refine pE_jump 2 (pc' := 147) (ls' := [some (.ref a), some (.int p0)]) (st' := [.int 0]) (fun _ => rfl) ?_
                  refine pE_weak [none, none] trivial ?_
                  exact f_M_count_147 sp d N 0 S1 _ h
              · rw [if_neg c8] at h
                refine pE_swD (pc' := 148) rfl (pm_swd6 c2 c3 c4 c5 c6 c7 c8) (by decide) rfl ?_
                refine pE_jump 1 (pc' := 149) (ls' := [some (.ref a), some (.int p0)]) (st' := [.int (-1)]) (fun _ => rfl) ?_
                cases h
                exact pE_ret rfl rfl rfl
