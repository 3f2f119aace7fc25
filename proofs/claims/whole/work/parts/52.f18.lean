def F_M_joint_61 (N : Nat)  (t0 : Int32) (S : pm_S) : Option (Int32 × pm_S) :=
    some (t0, S)
set_option maxHeartbeats 4000000 in
set_option maxRecDepth 20000 in
theorem f_M_joint_61 (sp : pm_I → List Value → pm_S → pm_O → Prop) (d N : Nat)  (t0 : Int32) (S : pm_S)  (r : (Int32 × pm_S)) (h : F_M_joint_61 N  t0 S = some r) : pmE pG (pm_rel pG sp (d + 3)) mi_M_joint 61 [none, none, none, none, none] [.int t0] S (some (.int r.1), r.2) := by
  unfold F_M_joint_61 at h
  cases h
  exact pE_ret rfl rfl rfl
def F_M_joint (N : Nat) (S : pm_S) (a : Nat) (p0 : Int32) (p1 : Int32) (p2 : Int32) : Option (Int32 × pm_S) :=
    if rcv S a 11 = true then
    ((wF S a 11 0 .int (.int 0)).bind fun S1 =>
    (F_M_isPair N S1 a p0 p1 p2).bind fun (v3, S2) =>
    if v3 = 0 then
    some ((-1), S2)
    else
    ((F_M_lay N S2 a p0 0 0).bind fun S4 =>
    (oR S4 a 11 26).bind fun oq5 => match oq5 with
    | none => none
    | some q5 =>
    (aI [0, 6] S4 q5 ((6 * p1) + p2)).bind fun v6 =>
    if v6 = (-1) then
    F_M_joint_61 N (-1) S4
    else
    F_M_joint_61 N ((8 * (v6 / 6)) + (v6 - v6 / 6 * 6)) S4))
    else none
theorem g_M_joint {N : Nat} {S : pm_S} {a : Nat} {p0 : Int32} {p1 : Int32} {p2 : Int32} {r : (Int32 × pm_S)} (h : F_M_joint N S a p0 p1 p2 = some r) : rcv S a 11 = true := by
  unfold F_M_joint at h
  by_cases c : rcv S a 11 = true
  · exact c
  · rw [if_neg c] at h; cases h
set_option maxHeartbeats 4000000 in
set_option maxRecDepth 20000 in
theorem f_M_joint (sp : pm_I → List Value → pm_S → pm_O → Prop) (d N : Nat) (S : pm_S) (a : Nat) (p0 : Int32) (p1 : Int32) (p2 : Int32) (r : (Int32 × pm_S)) (h : F_M_joint N S a p0 p1 p2 = some r) : pm_rel pG sp (d + 4) mi_M_joint [.ref a, .int p0, .int p1, .int p2] S (some (.int r.1), r.2) := by
  have hg := g_M_joint h
  unfold F_M_joint at h
  rw [if_pos hg] at h
  refine pE_rel (d := d + 3) ?_
  show pmE pG _ mi_M_joint 0 [some (.ref a), some (.int p0), some (.int p1), some (.int p2), none] [] S _
  refine pE_jump 2 (pc' := 2) (ls' := [some (.ref a), some (.int p0), some (.int p1), some (.int p2), none]) (st' := [.int 0, .ref a]) (fun _ => rfl) ?_
  obtain ⟨S1, hS1, h⟩ := obind h
  refine pE_pf rfl rfl rfl hS1 ?_
  refine pE_jump 4 (pc' := 9) (ls' := [some (.ref a), some (.int p0), some (.int p1), some (.int p2), none]) (st' := [.int p2, .int p1, .int p0, .ref a]) (fun _ => rfl) ?_
  obtain ⟨⟨v3, S2⟩, hv3, h⟩ := obind h
  try dsimp only at h
  refine pE_iv (Bs := [.int p0, .int p1, .int p2]) (st := []) 1 rfl (Or.inl ⟨rfl, rfl⟩) rfl rfl (Nat.le_of_ble_eq_true rfl) (Nat.le_of_ble_eq_true rfl) (g_M_isPair hv3) (f_M_isPair sp d N S1 a p0 p1 p2 _ hv3) ?_
  refine pE_br (¬ v3 = 0) rfl rfl (fun c8 => ?_) (fun c8 => ?_)
  · rw [if_neg c8] at h
    refine pE_jump 4 (pc' := 21) (ls' := [some (.ref a), some (.int p0), some (.int p1), some (.int p2), none]) (st' := [.int 0, .int 0, .int p0, .ref a]) (fun _ => rfl) ?_
    obtain ⟨S4, hS4, h⟩ := obind h
    refine pE_iv (Bs := [.int p0, .int 0, .int 0]) (st := []) 1 rfl (Or.inl ⟨rfl, rfl⟩) rfl rfl (Nat.le_of_ble_eq_true rfl) (Nat.le_of_ble_eq_true rfl) (g_M_lay hS4) (f_M_lay sp d N S2 a p0 0 0 _ hS4) ?_
    refine pE_jump 1 (pc' := 25) (ls' := [some (.ref a), some (.int p0), some (.int p1), some (.int p2), none]) (st' := [.ref a]) (fun _ => rfl) ?_
    obtain ⟨oq5, hq5, h⟩ := obind h
    cases oq5 with
    | none => cases h
    | some q5 =>
      try dsimp only at h
      refine pE_gfS rfl rfl hq5 ?_
      refine pE_jump 5 (pc' := 34) (ls' := [some (.ref a), some (.int p0), some (.int p1), some (.int p2), none]) (st' := [.int ((6 * p1) + p2), .ref q5]) (fun _ => rfl) ?_
      obtain ⟨v6, hv6, h⟩ := obind h
      refine pE_aI rfl rfl hv6 ?_
      refine pE_jump 3 (pc' := 40) (ls' := [some (.ref a), some (.int p0), some (.int p1), some (.int p2), some (.int v6)]) (st' := [.int (-1), .int v6]) (fun _ => rfl) ?_
      refine pE_br (¬ v6 = (-1)) rfl rfl (fun c7 => ?_) (fun c7 => ?_)
      · rw [if_neg c7] at h
        refine pE_jump 3 (pc' := 53) (ls' := [some (.ref a), some (.int p0), some (.int p1), some (.int p2), some (.int v6)]) (st' := [.int 6, .int v6, .int 8]) (fun _ => rfl) ?_
        refine pE_jump 1 (pc' := 54) (ls' := [some (.ref a), some (.int p0), some (.int p1), some (.int p2), some (.int v6)]) (st' := [.int (v6 / 6), .int 8]) (fun _ => rfl) ?_
        refine pE_jump 3 (pc' := 59) (ls' := [some (.ref a), some (.int p0), some (.int p1), some (.int p2), some (.int v6)]) (st' := [.int 6, .int v6, .int (8 * (v6 / 6))]) (fun _ => rfl) ?_
        refine pE_jump 1 (pc' := 60) (ls' := [some (.ref a), some (.int p0), some (.int p1), some (.int p2), some (.int v6)]) (st' := [.int (v6 - v6 / 6 * 6), .int (8 * (v6 / 6))]) (fun _ => rfl) ?_
        refine pE_jump 1 (pc' := 61) (ls' := [some (.ref a), some (.int p0), some (.int p1), some (.int p2), some (.int v6)]) (st' := [.int ((8 * (v6 / 6)) + (v6 - v6 / 6 * 6))]) (fun _ => rfl) ?_
        refine pE_weak [none, none, none, none, none] trivial ?_
        exact f_M_joint_61 sp d N ((8 * (v6 / 6)) + (v6 - v6 / 6 * 6)) S4 _ h
      · have c7 := Decidable.not_not.mp c7
        rw [if_pos c7] at h
        refine pE_jump 2 (pc' := 61) (ls' := [some (.ref a), some (.int p0), some (.int p1), some (.int p2), some (.int v6)]) (st' := [.int (-1)]) (fun _ => rfl) ?_
        refine pE_weak [none, none, none, none, none] trivial ?_
        exact f_M_joint_61 sp d N (-1) S4 _ h
  · have c8 := Decidable.not_not.mp c8
    rw [if_pos c8] at h
    refine pE_jump 1 (pc' := 16) (ls' := [some (.ref a), some (.int p0), some (.int p1), some (.int p2), none]) (st' := [.int (-1)]) (fun _ => rfl) ?_
    cases h
    exact pE_ret rfl rfl rfl
def F_M_isNumberOfHouse (N : Nat) (S : pm_S) (p0 : Int32) : Option (Int32 × pm_S) :=
    (F_M_isIn N S p0 0 9).bind fun (v2, S1) =>
    if v2 = 0 ∨ v2 = 1 then some (v2, S1) else none
set_option maxHeartbeats 4000000 in
set_option maxRecDepth 20000 in
theorem f_M_isNumberOfHouse (sp : pm_I → List Value → pm_S → pm_O → Prop) (d N : Nat) (S : pm_S) (p0 : Int32) (r : (Int32 × pm_S)) (h : F_M_isNumberOfHouse N S p0 = some r) : pm_rel pG sp (d + 2) mi_M_isNumberOfHouse [.int p0] S (some (.int r.1), r.2) := by
  unfold F_M_isNumberOfHouse at h
  refine pE_rel (d := d + 1) ?_
  show pmE pG _ mi_M_isNumberOfHouse 0 [some (.int p0)] [] S _
  refine pE_jump 3 (pc' := 4) (ls' := [some (.int p0)]) (st' := [.int 9, .int 0, .int p0]) (fun _ => rfl) ?_
  obtain ⟨⟨v2, S1⟩, hv2, h⟩ := obind h
  try dsimp only at h
  refine pE_is (Bs := [.int p0, .int 0, .int 9]) (st := []) rfl rfl rfl (Nat.le_of_ble_eq_true rfl) (Nat.le_of_ble_eq_true rfl) (f_M_isIn sp d N S p0 0 9 _ hv2) ?_
  by_cases c3 : v2 = 0 ∨ v2 = 1
  · rw [if_pos c3] at h
    cases h
    exact pE_ret rfl (if_pos c3) rfl
  · rw [if_neg c3] at h
    cases h
def F_M_hangsAt_26 (N : Nat)   (S : pm_S) : Option (Int32 × pm_S) :=
    some ((-1), S)
set_option maxHeartbeats 4000000 in
set_option maxRecDepth 20000 in
theorem f_M_hangsAt_26 (sp : pm_I → List Value → pm_S → pm_O → Prop) (d N : Nat)   (S : pm_S)  (r : (Int32 × pm_S)) (h : F_M_hangsAt_26 N   S = some r) : pmE pG (pm_rel pG sp (d + 0)) mi_M_hangsAt 26 [none, none, none] [] S (some (.int r.1), r.2) := by
  unfold F_M_hangsAt_26 at h
  refine pE_jump 1 (pc' := 27) (ls' := [none, none, none]) (st' := [.int (-1)]) (fun _ => rfl) ?_
  cases h
  exact pE_ret rfl rfl rfl
def F_M_hangsAt_18 (N : Nat)  (x2 : Int32) (S : pm_S) : Option (Int32 × pm_S) :=
    some (x2, S)
set_option maxHeartbeats 4000000 in
set_option maxRecDepth 20000 in
theorem f_M_hangsAt_18 (sp : pm_I → List Value → pm_S → pm_O → Prop) (d N : Nat)  (x2 : Int32) (S : pm_S)  (r : (Int32 × pm_S)) (h : F_M_hangsAt_18 N  x2 S = some r) : pmE pG (pm_rel pG sp (d + 0)) mi_M_hangsAt 18 [none, none, some (.int x2)] [] S (some (.int r.1), r.2) := by
  unfold F_M_hangsAt_18 at h
  refine pE_jump 1 (pc' := 19) (ls' := [none, none, some (.int x2)]) (st' := [.int x2]) (fun _ => rfl) ?_
  cases h
  exact pE_ret rfl rfl rfl
def B_M_hangsAt_2 (N : Nat)  (rec2 : Int32 → pm_S → Option (Int32 × pm_S)) (x0 : Nat) (x1 : Int32) (x2 : Int32) (S : pm_S) : Option (Int32 × pm_S) :=
    if 42 ≤ x2 then
    F_M_hangsAt_26 N S
    else
    ((oR S x0 11 27).bind fun oq1 => match oq1 with
    | none => none
    | some q1 =>
    (aI [0, 6] S q1 x2).bind fun v2 =>
    if v2 = x1 then
    F_M_hangsAt_18 N x2 S
    else
    rec2 (x2 + 1) S)
def F_M_hangsAt_2 (N : Nat)  (x0 : Nat) (x1 : Int32) : Nat → Int32 → pm_S → Option (Int32 × pm_S)
  | 0 => fun _ _ => none
  | n + 1 => fun x2 S => B_M_hangsAt_2 N  (F_M_hangsAt_2 N  x0 x1 n) x0 x1 x2 S
set_option maxHeartbeats 4000000 in
set_option maxRecDepth 20000 in
theorem f_M_hangsAt_2 (sp : pm_I → List Value → pm_S → pm_O → Prop) (d N : Nat)  (x0 : Nat) (x1 : Int32)  : ∀ (n : Nat) (x2 : Int32) (S : pm_S) (r : (Int32 × pm_S)), F_M_hangsAt_2 N  x0 x1 n x2 S = some r → pmE pG (pm_rel pG sp (d + 0)) mi_M_hangsAt 2 [some (.ref x0), some (.int x1), some (.int x2)] [] S (some (.int r.1), r.2) := by
  intro n
  induction n with
  | zero =>
    intro x2 S r h
    cases h
  | succ n ih =>
    intro x2 S r h
    replace h : B_M_hangsAt_2 N  (F_M_hangsAt_2 N  x0 x1 n) x0 x1 x2 S = some r := h
    have hrec2 := ih
    generalize F_M_hangsAt_2 N  x0 x1 n = rec2 at h hrec2
    unfold B_M_hangsAt_2 at h
    refine pE_jump 2 (pc' := 5) (ls' := [some (.ref x0), some (.int x1), some (.int x2)]) (st' := [.int 42, .int x2]) (fun _ => rfl) ?_
    refine pE_br (42 ≤ x2) rfl rfl (fun c4 => ?_) (fun c4 => ?_)
    · rw [if_pos c4] at h
      refine pE_weak [none, none, none] trivial ?_
      exact f_M_hangsAt_26 sp d N S _ h
    · rw [if_neg c4] at h
      refine pE_jump 1 (pc' := 9) (ls' := [some (.ref x0), some (.int x1), some (.int x2)]) (st' := [.ref x0]) (fun _ => rfl) ?_
      obtain ⟨oq1, hq1, h⟩ := obind h
      cases oq1 with
      | none => cases h
      | some q1 =>
        try dsimp only at h
        refine pE_gfS rfl rfl hq1 ?_
        refine pE_jump 1 (pc' := 13) (ls' := [some (.ref x0), some (.int x1), some (.int x2)]) (st' := [.int x2, .ref q1]) (fun _ => rfl) ?_
        obtain ⟨v2, hv2, h⟩ := obind h
        refine pE_aI rfl rfl hv2 ?_
        refine pE_jump 1 (pc' := 15) (ls' := [some (.ref x0), some (.int x1), some (.int x2)]) (st' := [.int x1, .int v2]) (fun _ => rfl) ?_
        refine pE_br (¬ v2 = x1) rfl rfl (fun c3 => ?_) (fun c3 => ?_)
        · rw [if_neg c3] at h
          refine pE_jump 2 (pc' := 2) (ls' := [some (.ref x0), some (.int x1), some (.int (x2 + 1))]) (st' := []) (fun _ => rfl) ?_
          exact hrec2 (x2 + 1) S _ h
        · have c3 := Decidable.not_not.mp c3
          rw [if_pos c3] at h
          refine pE_weak [none, none, some (.int x2)] ⟨rfl, trivial⟩ ?_
          exact f_M_hangsAt_18 sp d N x2 S _ h
def F_M_hangsAt (N : Nat) (S : pm_S) (a : Nat) (p0 : Int32) : Option (Int32 × pm_S) :=
    if rcv S a 11 = true then
    (F_M_hangsAt_2 N a p0 N 0 S)
    else none
theorem g_M_hangsAt {N : Nat} {S : pm_S} {a : Nat} {p0 : Int32} {r : (Int32 × pm_S)} (h : F_M_hangsAt N S a p0 = some r) : rcv S a 11 = true := by
  unfold F_M_hangsAt at h
  by_cases c : rcv S a 11 = true
  · exact c
  · rw [if_neg c] at h; cases h
set_option maxHeartbeats 4000000 in
set_option maxRecDepth 20000 in
theorem f_M_hangsAt (sp : pm_I → List Value → pm_S → pm_O → Prop) (d N : Nat) (S : pm_S) (a : Nat) (p0 : Int32) (r : (Int32 × pm_S)) (h : F_M_hangsAt N S a p0 = some r) : pm_rel pG sp (d + 1) mi_M_hangsAt [.ref a, .int p0] S (some (.int r.1), r.2) := by
  have hg := g_M_hangsAt h
  unfold F_M_hangsAt at h
  rw [if_pos hg] at h
  refine pE_rel (d := d + 0) ?_
  show pmE pG _ mi_M_hangsAt 0 [some (.ref a), some (.int p0), none] [] S _
  refine pE_jump 2 (pc' := 2) (ls' := [some (.ref a), some (.int p0), some (.int 0)]) (st' := []) (fun _ => rfl) ?_
  exact f_M_hangsAt_2 sp d N a p0 N 0 S _ h
def F_M_house_20 (N : Nat)   (S : pm_S) : Option (Int32 × pm_S) :=
    some ((-1), S)
set_option maxHeartbeats 4000000 in
set_option maxRecDepth 20000 in
theorem f_M_house_20 (sp : pm_I → List Value → pm_S → pm_O → Prop) (d N : Nat)   (S : pm_S)  (r : (Int32 × pm_S)) (h : F_M_house_20 N   S = some r) : pmE pG (pm_rel pG sp (d + 3)) mi_M_house 20 [none, none, none, none] [] S (some (.int r.1), r.2) := by
  unfold F_M_house_20 at h
  refine pE_jump 1 (pc' := 21) (ls' := [none, none, none, none]) (st' := [.int (-1)]) (fun _ => rfl) ?_
  cases h
  exact pE_ret rfl rfl rfl
def F_M_house_56 (N : Nat)  (t0 : Int32) (S : pm_S) : Option (Int32 × pm_S) :=
    some (t0, S)
set_option maxHeartbeats 4000000 in
set_option maxRecDepth 20000 in
theorem f_M_house_56 (sp : pm_I → List Value → pm_S → pm_O → Prop) (d N : Nat)  (t0 : Int32) (S : pm_S)  (r : (Int32 × pm_S)) (h : F_M_house_56 N  t0 S = some r) : pmE pG (pm_rel pG sp (d + 3)) mi_M_house 56 [none, none, none, none] [.int t0] S (some (.int r.1), r.2) := by
  unfold F_M_house_56 at h
  cases h
  exact pE_ret rfl rfl rfl
def F_M_house (N : Nat) (S : pm_S) (a : Nat) (p0 : Int32) (p1 : Int32) : Option (Int32 × pm_S) :=
    if rcv S a 11 = true then
    ((wF S a 11 0 .int (.int 0)).bind fun S1 =>
    (F_M_isPlan N S1 a p0).bind fun (v3, S2) =>
    if v3 = 0 then
    F_M_house_20 N S2
    else
    ((F_M_isNumberOfHouse N S2 p1).bind fun (v5, S4) =>
    if v5 = 0 then
    F_M_house_20 N S4
    else
    ((F_M_lay N S4 a p0 0 0).bind fun S6 =>
    (F_M_hangsAt N S6 a p1).bind fun (v8, S7) =>
    if v8 = (-1) then
    F_M_house_56 N (-1) S7
    else
    F_M_house_56 N ((8 * (v8 / 6)) + (v8 - v8 / 6 * 6)) S7)))
    else none
theorem g_M_house {N : Nat} {S : pm_S} {a : Nat} {p0 : Int32} {p1 : Int32} {r : (Int32 × pm_S)} (h : F_M_house N S a p0 p1 = some r) : rcv S a 11 = true := by
  unfold F_M_house at h
  by_cases c : rcv S a 11 = true
  · exact c
  · rw [if_neg c] at h; cases h
set_option maxHeartbeats 4000000 in
set_option maxRecDepth 20000 in
theorem f_M_house (sp : pm_I → List Value → pm_S → pm_O → Prop) (d N : Nat) (S : pm_S) (a : Nat) (p0 : Int32) (p1 : Int32) (r : (Int32 × pm_S)) (h : F_M_house N S a p0 p1 = some r) : pm_rel pG sp (d + 4) mi_M_house [.ref a, .int p0, .int p1] S (some (.int r.1), r.2) := by
  have hg := g_M_house h
  unfold F_M_house at h
  rw [if_pos hg] at h
  refine pE_rel (d := d + 3) ?_
  show pmE pG _ mi_M_house 0 [some (.ref a), some (.int p0), some (.int p1), none] [] S _
  refine pE_jump 2 (pc' := 2) (ls' := [some (.ref a), some (.int p0), some (.int p1), none]) (st' := [.int 0, .ref a]) (fun _ => rfl) ?_
  obtain ⟨S1, hS1, h⟩ := obind h
  refine pE_pf rfl rfl rfl hS1 ?_
  refine pE_jump 2 (pc' := 7) (ls' := [some (.ref a), some (.int p0), some (.int p1), none]) (st' := [.int p0, .ref a]) (fun _ => rfl) ?_
  obtain ⟨⟨v3, S2⟩, hv3, h⟩ := obind h
  try dsimp only at h
  refine pE_iv (Bs := [.int p0]) (st := []) 1 rfl (Or.inl ⟨rfl, rfl⟩) rfl rfl (Nat.le_of_ble_eq_true rfl) (Nat.le_of_ble_eq_true rfl) (g_M_isPlan hv3) (f_M_isPlan sp (d + 2) N S1 a p0 _ hv3) ?_
  refine pE_br (v3 = 0) rfl rfl (fun c11 => ?_) (fun c11 => ?_)
  · rw [if_pos c11] at h
    refine pE_weak [none, none, none, none] trivial ?_
    exact f_M_house_20 sp d N S2 _ h
  · rw [if_neg c11] at h
    refine pE_jump 1 (pc' := 14) (ls' := [some (.ref a), some (.int p0), some (.int p1), none]) (st' := [.int p1]) (fun _ => rfl) ?_
    obtain ⟨⟨v5, S4⟩, hv5, h⟩ := obind h
    try dsimp only at h
    refine pE_is (Bs := [.int p1]) (st := []) rfl rfl rfl (Nat.le_of_ble_eq_true rfl) (Nat.le_of_ble_eq_true rfl) (f_M_isNumberOfHouse sp (d + 1) N S2 p1 _ hv5) ?_
    refine pE_br (¬ v5 = 0) rfl rfl (fun c10 => ?_) (fun c10 => ?_)
    · rw [if_neg c10] at h
      refine pE_jump 4 (pc' := 26) (ls' := [some (.ref a), some (.int p0), some (.int p1), none]) (st' := [.int 0, .int 0, .int p0, .ref a]) (fun _ => rfl) ?_
      obtain ⟨S6, hS6, h⟩ := obind h
      refine pE_iv (Bs := [.int p0, .int 0, .int 0]) (st := []) 1 rfl (Or.inl ⟨rfl, rfl⟩) rfl rfl (Nat.le_of_ble_eq_true rfl) (Nat.le_of_ble_eq_true rfl) (g_M_lay hS6) (f_M_lay sp d N S4 a p0 0 0 _ hS6) ?_
      refine pE_jump 2 (pc' := 31) (ls' := [some (.ref a), some (.int p0), some (.int p1), none]) (st' := [.int p1, .ref a]) (fun _ => rfl) ?_
      obtain ⟨⟨v8, S7⟩, hv8, h⟩ := obind h
      try dsimp only at h
      refine pE_iv (Bs := [.int p1]) (st := []) 1 rfl (Or.inl ⟨rfl, rfl⟩) rfl rfl (Nat.le_of_ble_eq_true rfl) (Nat.le_of_ble_eq_true rfl) (g_M_hangsAt hv8) (f_M_hangsAt sp (d + 2) N S6 a p1 _ hv8) ?_
      refine pE_jump 3 (pc' := 37) (ls' := [some (.ref a), some (.int p0), some (.int p1), some (.int v8)]) (st' := [.int (-1), .int v8]) (fun _ => rfl) ?_
      refine pE_br (¬ v8 = (-1)) rfl rfl (fun c9 => ?_) (fun c9 => ?_)
      · rw [if_neg c9] at h
        refine pE_jump 3 (pc' := 49) (ls' := [some (.ref a), some (.int p0), some (.int p1), some (.int v8)]) (st' := [.int 6, .int v8, .int 8]) (fun _ => rfl) ?_
        refine pE_jump 1 (pc' := 50) (ls' := [some (.ref a), some (.int p0), some (.int p1), some (.int v8)]) (st' := [.int (v8 / 6), .int 8]) (fun _ => rfl) ?_
        refine pE_jump 3 (pc' := 54) (ls' := [some (.ref a), some (.int p0), some (.int p1), some (.int v8)]) (st' := [.int 6, .int v8, .int (8 * (v8 / 6))]) (fun _ => rfl) ?_
        refine pE_jump 1 (pc' := 55) (ls' := [some (.ref a), some (.int p0), some (.int p1), some (.int v8)]) (st' := [.int (v8 - v8 / 6 * 6), .int (8 * (v8 / 6))]) (fun _ => rfl) ?_
        refine pE_jump 1 (pc' := 56) (ls' := [some (.ref a), some (.int p0), some (.int p1), some (.int v8)]) (st' := [.int ((8 * (v8 / 6)) + (v8 - v8 / 6 * 6))]) (fun _ => rfl) ?_
        refine pE_weak [none, none, none, none] trivial ?_
        exact f_M_house_56 sp d N ((8 * (v8 / 6)) + (v8 - v8 / 6 * 6)) S7 _ h
      · have c9 := Decidable.not_not.mp c9
        rw [if_pos c9] at h
        refine pE_jump 2 (pc' := 56) (ls' := [some (.ref a), some (.int p0), some (.int p1), some (.int v8)]) (st' := [.int (-1)]) (fun _ => rfl) ?_
        refine pE_weak [none, none, none, none] trivial ?_
        exact f_M_house_56 sp d N (-1) S7 _ h
    · have c10 := Decidable.not_not.mp c10
      rw [if_pos c10] at h
      refine pE_weak [none, none, none, none] trivial ?_
      exact f_M_house_20 sp d N S4 _ h
def F_M_feeds_118 (N : Nat)  (x3 : Int64) (S : pm_S) : Option (Int64 × pm_S) :=
    some (x3, S)
set_option maxHeartbeats 4000000 in
set_option maxRecDepth 20000 in
theorem f_M_feeds_118 (sp : pm_I → List Value → pm_S → pm_O → Prop) (d N : Nat)  (x3 : Int64) (S : pm_S)  (r : (Int64 × pm_S)) (h : F_M_feeds_118 N  x3 S = some r) : pmE pG (pm_rel pG sp (d + 4)) mi_M_feeds 118 [none, none, none, some (.long x3), none, none, none, none] [] S (some (.long r.1), r.2) := by
  unfold F_M_feeds_118 at h
  refine pE_jump 1 (pc' := 119) (ls' := [none, none, none, some (.long x3), none, none, none, none]) (st' := [.long x3]) (fun _ => rfl) ?_
  cases h
  exact pE_ret rfl rfl rfl
def F_M_feeds_112 (N : Nat) (rec18 : Int64 → Int32 → Int32 → pm_S → Option (Int64 × pm_S)) (x0 : Nat) (x3 : Int64) (x5 : Int32) (x6 : Int32) (S : pm_S) : Option (Int64 × pm_S) :=
    rec18 x3 x5 (x6 + 1) S
set_option maxHeartbeats 4000000 in
set_option maxRecDepth 20000 in
theorem f_M_feeds_112 (sp : pm_I → List Value → pm_S → pm_O → Prop) (d N : Nat) (rec18 : Int64 → Int32 → Int32 → pm_S → Option (Int64 × pm_S)) (x0 : Nat) (x3 : Int64) (x5 : Int32) (x6 : Int32) (S : pm_S) (hrec18 : ∀ (y1 : Int64) (y2 : Int32) (y3 : Int32) (U : pm_S) (r : (Int64 × pm_S)), rec18 y1 y2 y3 U = some r → pmE pG (pm_rel pG sp (d + 4)) mi_M_feeds 18 [some (.ref x0), none, none, some (.long y1), none, some (.int y2), some (.int y3), none] [] U (some (.long r.1), r.2)) (r : (Int64 × pm_S)) (h : F_M_feeds_112 N rec18 x0 x3 x5 x6 S = some r) : pmE pG (pm_rel pG sp (d + 4)) mi_M_feeds 112 [some (.ref x0), none, none, some (.long x3), none, some (.int x5), some (.int x6), none] [] S (some (.long r.1), r.2) := by
  unfold F_M_feeds_112 at h
  refine pE_jump 2 (pc' := 18) (ls' := [some (.ref x0), none, none, some (.long x3), none, some (.int x5), some (.int (x6 + 1)), none]) (st' := []) (fun _ => rfl) ?_
  exact hrec18 x3 x5 (x6 + 1) S _ h
def F_M_feeds_101 (N : Nat) (rec18 : Int64 → Int32 → Int32 → pm_S → Option (Int64 × pm_S)) (rec56 : Int64 → Int32 → Int32 → pm_S → Option (Int64 × pm_S)) (x0 : Nat) (x5 : Int32) (x6 : Int32) (x7 : Int32) (t0 : Int64) (t1 : Int64) (S : pm_S) : Option (Int64 × pm_S) :=
    rec56 (t1 ||| t0) (x5 + 1) (x7 + 1) S
set_option maxHeartbeats 4000000 in
set_option maxRecDepth 20000 in
theorem f_M_feeds_101 (sp : pm_I → List Value → pm_S → pm_O → Prop) (d N : Nat) (rec18 : Int64 → Int32 → Int32 → pm_S → Option (Int64 × pm_S)) (rec56 : Int64 → Int32 → Int32 → pm_S → Option (Int64 × pm_S)) (x0 : Nat) (x5 : Int32) (x6 : Int32) (x7 : Int32) (t0 : Int64) (t1 : Int64) (S : pm_S) (hrec18 : ∀ (y1 : Int64) (y2 : Int32) (y3 : Int32) (U : pm_S) (r : (Int64 × pm_S)), rec18 y1 y2 y3 U = some r → pmE pG (pm_rel pG sp (d + 4)) mi_M_feeds 18 [some (.ref x0), none, none, some (.long y1), none, some (.int y2), some (.int y3), none] [] U (some (.long r.1), r.2)) (hrec56 : ∀ (y1 : Int64) (y2 : Int32) (y3 : Int32) (U : pm_S) (r : (Int64 × pm_S)), rec56 y1 y2 y3 U = some r → pmE pG (pm_rel pG sp (d + 4)) mi_M_feeds 56 [some (.ref x0), none, none, some (.long y1), none, some (.int y2), some (.int x6), some (.int y3)] [] U (some (.long r.1), r.2)) (r : (Int64 × pm_S)) (h : F_M_feeds_101 N rec18 rec56 x0 x5 x6 x7 t0 t1 S = some r) : pmE pG (pm_rel pG sp (d + 4)) mi_M_feeds 101 [some (.ref x0), none, none, none, none, some (.int x5), some (.int x6), some (.int x7)] [.long t0, .long t1] S (some (.long r.1), r.2) := by
  unfold F_M_feeds_101 at h
  refine pE_jump 5 (pc' := 56) (ls' := [some (.ref x0), none, none, some (.long (t1 ||| t0)), none, some (.int (x5 + 1)), some (.int x6), some (.int (x7 + 1))]) (st' := []) (fun _ => rfl) ?_
  exact hrec56 (t1 ||| t0) (x5 + 1) (x7 + 1) S _ h
def B_M_feeds_56 (N : Nat) (rec18 : Int64 → Int32 → Int32 → pm_S → Option (Int64 × pm_S)) (rec56 : Int64 → Int32 → Int32 → pm_S → Option (Int64 × pm_S)) (x0 : Nat) (x6 : Int32) (x3 : Int64) (x5 : Int32) (x7 : Int32) (S : pm_S) : Option (Int64 × pm_S) :=
    (oR S x0 11 10).bind fun oq12 => match oq12 with
    | none => none
    | some q12 =>
    (oI S x0 11 29).bind fun v14 =>
    (aI [0, 6] S q12 ((7 * v14) + x6)).bind fun v15 =>
    if v15 ≤ x7 then
    F_M_feeds_112 N rec18 x0 x3 x5 x6 S
    else
    ((oR S x0 11 35).bind fun oq16 => match oq16 with
    | none => none
    | some q16 =>
    (F_M_nearNode N S x0 x6 x7).bind fun (v20, S19) =>
    (aI [2, 3] S19 q16 v20).bind fun v21 =>
    if v21 = 0 then
    F_M_feeds_101 N rec18 rec56 x0 x5 x6 x7 0 x3 S19
    else
    F_M_feeds_101 N rec18 rec56 x0 x5 x6 x7 (1 <<< (Int32.toInt64 x5 &&& 63)) x3 S19)
def F_M_feeds_56 (N : Nat) (rec18 : Int64 → Int32 → Int32 → pm_S → Option (Int64 × pm_S)) (x0 : Nat) (x6 : Int32) : Nat → Int64 → Int32 → Int32 → pm_S → Option (Int64 × pm_S)
  | 0 => fun _ _ _ _ => none
  | n + 1 => fun x3 x5 x7 S => B_M_feeds_56 N rec18 (F_M_feeds_56 N rec18 x0 x6 n) x0 x6 x3 x5 x7 S
set_option maxHeartbeats 4000000 in
set_option maxRecDepth 20000 in
theorem f_M_feeds_56 (sp : pm_I → List Value → pm_S → pm_O → Prop) (d N : Nat) (rec18 : Int64 → Int32 → Int32 → pm_S → Option (Int64 × pm_S)) (x0 : Nat) (x6 : Int32) (hrec18 : ∀ (y1 : Int64) (y2 : Int32) (y3 : Int32) (U : pm_S) (r : (Int64 × pm_S)), rec18 y1 y2 y3 U = some r → pmE pG (pm_rel pG sp (d + 4)) mi_M_feeds 18 [some (.ref x0), none, none, some (.long y1), none, some (.int y2), some (.int y3), none] [] U (some (.long r.1), r.2)) : ∀ (n : Nat) (x3 : Int64) (x5 : Int32) (x7 : Int32) (S : pm_S) (r : (Int64 × pm_S)), F_M_feeds_56 N rec18 x0 x6 n x3 x5 x7 S = some r → pmE pG (pm_rel pG sp (d + 4)) mi_M_feeds 56 [some (.ref x0), none, none, some (.long x3), none, some (.int x5), some (.int x6), some (.int x7)] [] S (some (.long r.1), r.2) := by
  intro n
  induction n with
  | zero =>
    intro x3 x5 x7 S r h
    cases h
  | succ n ih =>
    intro x3 x5 x7 S r h
    replace h : B_M_feeds_56 N rec18 (F_M_feeds_56 N rec18 x0 x6 n) x0 x6 x3 x5 x7 S = some r := h
    have hrec56 := ih
    generalize F_M_feeds_56 N rec18 x0 x6 n = rec56 at h hrec56
    unfold B_M_feeds_56 at h
    refine pE_jump 2 (pc' := 59) (ls' := [some (.ref x0), none, none, some (.long x3), none, some (.int x5), some (.int x6), some (.int x7)]) (st' := [.ref x0, .int x7]) (fun _ => rfl) ?_
    obtain ⟨oq12, hq12, h⟩ := obind h
    cases oq12 with
    | none => cases h
    | some q12 =>
      try dsimp only at h
      refine pE_gfS rfl rfl hq12 ?_
      refine pE_jump 2 (pc' := 65) (ls' := [some (.ref x0), none, none, some (.long x3), none, some (.int x5), some (.int x6), some (.int x7)]) (st' := [.ref x0, .int 7, .ref q12, .int x7]) (fun _ => rfl) ?_
      obtain ⟨v14, hv14, h⟩ := obind h
      refine pE_gfI rfl rfl hv14 ?_
      refine pE_jump 3 (pc' := 72) (ls' := [some (.ref x0), none, none, some (.long x3), none, some (.int x5), some (.int x6), some (.int x7)]) (st' := [.int ((7 * v14) + x6), .ref q12, .int x7]) (fun _ => rfl) ?_
      obtain ⟨v15, hv15, h⟩ := obind h
      refine pE_aI rfl rfl hv15 ?_
      refine pE_br (v15 ≤ x7) rfl rfl (fun c23 => ?_) (fun c23 => ?_)
      · rw [if_pos c23] at h
        refine pE_weak [some (.ref x0), none, none, some (.long x3), none, some (.int x5), some (.int x6), none] ⟨rfl, ⟨rfl, ⟨rfl, ⟨rfl, trivial⟩⟩⟩⟩ ?_
        exact f_M_feeds_112 sp d N rec18 x0 x3 x5 x6 S hrec18 _ h
      · rw [if_neg c23] at h
        refine pE_jump 2 (pc' := 78) (ls' := [some (.ref x0), none, none, some (.long x3), none, some (.int x5), some (.int x6), some (.int x7)]) (st' := [.ref x0, .long x3]) (fun _ => rfl) ?_
        obtain ⟨oq16, hq16, h⟩ := obind h
        cases oq16 with
        | none => cases h
        | some q16 =>
          try dsimp only at h
          refine pE_gfS rfl rfl hq16 ?_
          refine pE_jump 3 (pc' := 86) (ls' := [some (.ref x0), none, none, some (.long x3), none, some (.int x5), some (.int x6), some (.int x7)]) (st' := [.int x7, .int x6, .ref x0, .ref q16, .long x3]) (fun _ => rfl) ?_
          obtain ⟨⟨v20, S19⟩, hv20, h⟩ := obind h
          try dsimp only at h
          refine pE_iv (Bs := [.int x6, .int x7]) (st := [.ref q16, .long x3]) 1 rfl (Or.inl ⟨rfl, rfl⟩) rfl rfl (Nat.le_of_ble_eq_true rfl) (Nat.le_of_ble_eq_true rfl) (g_M_nearNode hv20) (f_M_nearNode sp (d + 2) N S x0 x6 x7 _ hv20) ?_
          obtain ⟨v21, hv21, h⟩ := obind h
          refine pE_aI rfl rfl hv21 ?_
          refine pE_br (v21 = 0) rfl rfl (fun c22 => ?_) (fun c22 => ?_)
          · rw [if_pos c22] at h
            refine pE_jump 1 (pc' := 101) (ls' := [some (.ref x0), none, none, some (.long x3), none, some (.int x5), some (.int x6), some (.int x7)]) (st' := [.long 0, .long x3]) (fun _ => rfl) ?_
            refine pE_weak [some (.ref x0), none, none, none, none, some (.int x5), some (.int x6), some (.int x7)] ⟨rfl, ⟨rfl, ⟨rfl, ⟨rfl, trivial⟩⟩⟩⟩ ?_
            exact f_M_feeds_101 sp d N rec18 rec56 x0 x5 x6 x7 0 x3 S19 hrec18 hrec56 _ h
          · rw [if_neg c22] at h
            refine pE_jump 4 (pc' := 101) (ls' := [some (.ref x0), none, none, some (.long x3), none, some (.int x5), some (.int x6), some (.int x7)]) (st' := [.long (1 <<< (Int32.toInt64 x5 &&& 63)), .long x3]) (fun _ => rfl) ?_
            refine pE_weak [some (.ref x0), none, none, none, none, some (.int x5), some (.int x6), some (.int x7)] ⟨rfl, ⟨rfl, ⟨rfl, ⟨rfl, trivial⟩⟩⟩⟩ ?_
            exact f_M_feeds_101 sp d N rec18 rec56 x0 x5 x6 x7 (1 <<< (Int32.toInt64 x5 &&& 63)) x3 S19 hrec18 hrec56 _ h
def B_M_feeds_18 (N : Nat)  (rec18 : Int64 → Int32 → Int32 → pm_S → Option (Int64 × pm_S)) (x0 : Nat) (x3 : Int64) (x5 : Int32) (x6 : Int32) (S : pm_S) : Option (Int64 × pm_S) :=
    (oR S x0 11 7).bind fun oq4 => match oq4 with
    | none => none
    | some q4 =>
    (oI S x0 11 29).bind fun v6 =>
    (aI [0, 6] S q4 v6).bind fun v7 =>
    if v7 ≤ x6 then
    F_M_feeds_118 N x3 S
    else
    ((oR S x0 11 8).bind fun oq8 => match oq8 with
    | none => none
    | some q8 =>
    (oI S x0 11 29).bind fun v10 =>
    (aI [0, 6] S q8 ((7 * v10) + x6)).bind fun v11 =>
    if v11 = 0 then
    F_M_feeds_56 N rec18 x0 x6 N x3 x5 0 S
    else
    F_M_feeds_112 N rec18 x0 x3 x5 x6 S)
def F_M_feeds_18 (N : Nat)  (x0 : Nat) : Nat → Int64 → Int32 → Int32 → pm_S → Option (Int64 × pm_S)
  | 0 => fun _ _ _ _ => none
  | n + 1 => fun x3 x5 x6 S => B_M_feeds_18 N  (F_M_feeds_18 N  x0 n) x0 x3 x5 x6 S
set_option maxHeartbeats 4000000 in
set_option maxRecDepth 20000 in
theorem f_M_feeds_18 (sp : pm_I → List Value → pm_S → pm_O → Prop) (d N : Nat)  (x0 : Nat)  : ∀ (n : Nat) (x3 : Int64) (x5 : Int32) (x6 : Int32) (S : pm_S) (r : (Int64 × pm_S)), F_M_feeds_18 N  x0 n x3 x5 x6 S = some r → pmE pG (pm_rel pG sp (d + 4)) mi_M_feeds 18 [some (.ref x0), none, none, some (.long x3), none, some (.int x5), some (.int x6), none] [] S (some (.long r.1), r.2) := by
  intro n
  induction n with
  | zero =>
    intro x3 x5 x6 S r h
    cases h
  | succ n ih =>
    intro x3 x5 x6 S r h
    replace h : B_M_feeds_18 N  (F_M_feeds_18 N  x0 n) x0 x3 x5 x6 S = some r := h
    have hrec18 := ih
    generalize F_M_feeds_18 N  x0 n = rec18 at h hrec18
    unfold B_M_feeds_18 at h
    refine pE_jump 2 (pc' := 21) (ls' := [some (.ref x0), none, none, some (.long x3), none, some (.int x5), some (.int x6), none]) (st' := [.ref x0, .int x6]) (fun _ => rfl) ?_
    obtain ⟨oq4, hq4, h⟩ := obind h
    cases oq4 with
    | none => cases h
    | some q4 =>
      try dsimp only at h
      refine pE_gfS rfl rfl hq4 ?_
      refine pE_jump 1 (pc' := 25) (ls' := [some (.ref x0), none, none, some (.long x3), none, some (.int x5), some (.int x6), none]) (st' := [.ref x0, .ref q4, .int x6]) (fun _ => rfl) ?_
      obtain ⟨v6, hv6, h⟩ := obind h
      refine pE_gfI rfl rfl hv6 ?_
      obtain ⟨v7, hv7, h⟩ := obind h
      refine pE_aI rfl rfl hv7 ?_
      refine pE_br (v7 ≤ x6) rfl rfl (fun c25 => ?_) (fun c25 => ?_)
      · rw [if_pos c25] at h
        refine pE_weak [none, none, none, some (.long x3), none, none, none, none] ⟨rfl, trivial⟩ ?_
        exact f_M_feeds_118 sp d N x3 S _ h
      · rw [if_neg c25] at h
        refine pE_jump 1 (pc' := 33) (ls' := [some (.ref x0), none, none, some (.long x3), none, some (.int x5), some (.int x6), none]) (st' := [.ref x0]) (fun _ => rfl) ?_
        obtain ⟨oq8, hq8, h⟩ := obind h
        cases oq8 with
        | none => cases h
        | some q8 =>
          try dsimp only at h
          refine pE_gfS rfl rfl hq8 ?_
          refine pE_jump 2 (pc' := 39) (ls' := [some (.ref x0), none, none, some (.long x3), none, some (.int x5), some (.int x6), none]) (st' := [.ref x0, .int 7, .ref q8]) (fun _ => rfl) ?_
          obtain ⟨v10, hv10, h⟩ := obind h
          refine pE_gfI rfl rfl hv10 ?_
          refine pE_jump 3 (pc' := 46) (ls' := [some (.ref x0), none, none, some (.long x3), none, some (.int x5), some (.int x6), none]) (st' := [.int ((7 * v10) + x6), .ref q8]) (fun _ => rfl) ?_
          obtain ⟨v11, hv11, h⟩ := obind h
          refine pE_aI rfl rfl hv11 ?_
          refine pE_br (v11 = 0) rfl rfl (fun c24 => ?_) (fun c24 => ?_)
          · rw [if_pos c24] at h
            refine pE_jump 2 (pc' := 56) (ls' := [some (.ref x0), none, none, some (.long x3), none, some (.int x5), some (.int x6), some (.int 0)]) (st' := []) (fun _ => rfl) ?_
            exact f_M_feeds_56 sp d N rec18 x0 x6 hrec18 N x3 x5 0 S _ h
          · rw [if_neg c24] at h
            refine pE_jump 1 (pc' := 112) (ls' := [some (.ref x0), none, none, some (.long x3), none, some (.int x5), some (.int x6), none]) (st' := []) (fun _ => rfl) ?_
            exact f_M_feeds_112 sp d N rec18 x0 x3 x5 x6 S hrec18 _ h
def F_M_feeds (N : Nat) (S : pm_S) (a : Nat) (p0 : Int32) (p1 : Int32) : Option (Int64 × pm_S) :=
    if rcv S a 11 = true then
    ((F_M_farNode N S a p0 p1).bind fun (v2, S1) =>
    (F_M_sound N S1 a v2).bind fun S3 =>
    F_M_feeds_18 N a N 0 0 0 S3)
    else none
theorem g_M_feeds {N : Nat} {S : pm_S} {a : Nat} {p0 : Int32} {p1 : Int32} {r : (Int64 × pm_S)} (h : F_M_feeds N S a p0 p1 = some r) : rcv S a 11 = true := by
  unfold F_M_feeds at h
  by_cases c : rcv S a 11 = true
  · exact c
  · rw [if_neg c] at h; cases h
set_option maxHeartbeats 4000000 in
set_option maxRecDepth 20000 in
theorem f_M_feeds (sp : pm_I → List Value → pm_S → pm_O → Prop) (d N : Nat) (S : pm_S) (a : Nat) (p0 : Int32) (p1 : Int32) (r : (Int64 × pm_S)) (h : F_M_feeds N S a p0 p1 = some r) : pm_rel pG sp (d + 5) mi_M_feeds [.ref a, .int p0, .int p1] S (some (.long r.1), r.2) := by
  have hg := g_M_feeds h
  unfold F_M_feeds at h
  rw [if_pos hg] at h
  refine pE_rel (d := d + 4) ?_
  show pmE pG _ mi_M_feeds 0 [some (.ref a), some (.int p0), some (.int p1), none, none, none, none, none] [] S _
  refine pE_jump 4 (pc' := 4) (ls' := [some (.ref a), some (.int p0), some (.int p1), none, none, none, none, none]) (st' := [.int p1, .int p0, .ref a, .ref a]) (fun _ => rfl) ?_
  obtain ⟨⟨v2, S1⟩, hv2, h⟩ := obind h
  try dsimp only at h
  refine pE_iv (Bs := [.int p0, .int p1]) (st := [.ref a]) 1 rfl (Or.inl ⟨rfl, rfl⟩) rfl rfl (Nat.le_of_ble_eq_true rfl) (Nat.le_of_ble_eq_true rfl) (g_M_farNode hv2) (f_M_farNode sp (d + 1) N S a p0 p1 _ hv2) ?_
  obtain ⟨S3, hS3, h⟩ := obind h
  refine pE_iv (Bs := [.int v2]) (st := []) 1 rfl (Or.inl ⟨rfl, rfl⟩) rfl rfl (Nat.le_of_ble_eq_true rfl) (Nat.le_of_ble_eq_true rfl) (g_M_sound hS3) (f_M_sound sp d N S1 a v2 _ hS3) ?_
  refine pE_jump 6 (pc' := 18) (ls' := [some (.ref a), some (.int p0), some (.int p1), some (.long 0), none, some (.int 0), some (.int 0), none]) (st' := []) (fun _ => rfl) ?_
  refine pE_weak [some (.ref a), none, none, some (.long 0), none, some (.int 0), some (.int 0), none] ⟨rfl, ⟨rfl, ⟨rfl, ⟨rfl, trivial⟩⟩⟩⟩ ?_
  exact f_M_feeds_18 sp d N a N 0 0 0 S3 _ h
def F_M_fed_22 (N : Nat)   (S : pm_S) : Option (Int64 × pm_S) :=
    some ((-1), S)
set_option maxHeartbeats 4000000 in
set_option maxRecDepth 20000 in
theorem f_M_fed_22 (sp : pm_I → List Value → pm_S → pm_O → Prop) (d N : Nat)   (S : pm_S)  (r : (Int64 × pm_S)) (h : F_M_fed_22 N   S = some r) : pmE pG (pm_rel pG sp (d + 5)) mi_M_fed 22 [none, none, none, none, none, none] [] S (some (.long r.1), r.2) := by
  unfold F_M_fed_22 at h
  refine pE_jump 1 (pc' := 25) (ls' := [none, none, none, none, none, none]) (st' := [.long (-1)]) (fun _ => rfl) ?_
  cases h
  exact pE_ret rfl rfl rfl
def F_M_fed_67 (N : Nat)  (t0 : Int64) (S : pm_S) : Option (Int64 × pm_S) :=
    some (t0, S)
set_option maxHeartbeats 4000000 in
set_option maxRecDepth 20000 in
theorem f_M_fed_67 (sp : pm_I → List Value → pm_S → pm_O → Prop) (d N : Nat)  (t0 : Int64) (S : pm_S)  (r : (Int64 × pm_S)) (h : F_M_fed_67 N  t0 S = some r) : pmE pG (pm_rel pG sp (d + 5)) mi_M_fed 67 [none, none, none, none, none, none] [.long t0] S (some (.long r.1), r.2) := by
  unfold F_M_fed_67 at h
  cases h
  exact pE_ret rfl rfl rfl
def F_M_fed (N : Nat) (S : pm_S) (a : Nat) (p0 : Int32) (p1 : Int32) (p2 : Int32) (p3 : Int32) : Option (Int64 × pm_S) :=
    if rcv S a 11 = true then
    ((wF S a 11 0 .int (.int 0)).bind fun S1 =>
    (F_M_isWorld N S1 a p0 p1).bind fun (v3, S2) =>
    if v3 = 0 then
    F_M_fed_22 N S2
    else
    ((F_M_isNumberOfHouse N S2 p3).bind fun (v5, S4) =>
    if v5 = 0 then
    F_M_fed_22 N S4
    else
    ((F_M_lay N S4 a p0 p1 p2).bind fun S6 =>
    (F_M_hangsAt N S6 a p3).bind fun (v8, S7) =>
    if v8 = (-1) then
    F_M_fed_67 N (-1) S7
    else
    ((F_M_feeds N S7 a (v8 / 6) (v8 - v8 / 6 * 6)).bind fun (v10, S9) =>
    F_M_fed_67 N v10 S9))))
    else none
theorem g_M_fed {N : Nat} {S : pm_S} {a : Nat} {p0 : Int32} {p1 : Int32} {p2 : Int32} {p3 : Int32} {r : (Int64 × pm_S)} (h : F_M_fed N S a p0 p1 p2 p3 = some r) : rcv S a 11 = true := by
  unfold F_M_fed at h
  by_cases c : rcv S a 11 = true
  · exact c
  · rw [if_neg c] at h; cases h
set_option maxHeartbeats 4000000 in
set_option maxRecDepth 20000 in
theorem f_M_fed (sp : pm_I → List Value → pm_S → pm_O → Prop) (d N : Nat) (S : pm_S) (a : Nat) (p0 : Int32) (p1 : Int32) (p2 : Int32) (p3 : Int32) (r : (Int64 × pm_S)) (h : F_M_fed N S a p0 p1 p2 p3 = some r) : pm_rel pG sp (d + 6) mi_M_fed [.ref a, .int p0, .int p1, .int p2, .int p3] S (some (.long r.1), r.2) := by
  have hg := g_M_fed h
  unfold F_M_fed at h
  rw [if_pos hg] at h
  refine pE_rel (d := d + 5) ?_
  show pmE pG _ mi_M_fed 0 [some (.ref a), some (.int p0), some (.int p1), some (.int p2), some (.int p3), none] [] S _
  refine pE_jump 2 (pc' := 2) (ls' := [some (.ref a), some (.int p0), some (.int p1), some (.int p2), some (.int p3), none]) (st' := [.int 0, .ref a]) (fun _ => rfl) ?_
  obtain ⟨S1, hS1, h⟩ := obind h
  refine pE_pf rfl rfl rfl hS1 ?_
  refine pE_jump 3 (pc' := 8) (ls' := [some (.ref a), some (.int p0), some (.int p1), some (.int p2), some (.int p3), none]) (st' := [.int p1, .int p0, .ref a]) (fun _ => rfl) ?_
  obtain ⟨⟨v3, S2⟩, hv3, h⟩ := obind h
  try dsimp only at h
  refine pE_iv (Bs := [.int p0, .int p1]) (st := []) 1 rfl (Or.inl ⟨rfl, rfl⟩) rfl rfl (Nat.le_of_ble_eq_true rfl) (Nat.le_of_ble_eq_true rfl) (g_M_isWorld hv3) (f_M_isWorld sp (d + 3) N S1 a p0 p1 _ hv3) ?_
  refine pE_br (v3 = 0) rfl rfl (fun c13 => ?_) (fun c13 => ?_)
  · rw [if_pos c13] at h
    refine pE_weak [none, none, none, none, none, none] trivial ?_
    exact f_M_fed_22 sp d N S2 _ h
  · rw [if_neg c13] at h
    refine pE_jump 1 (pc' := 16) (ls' := [some (.ref a), some (.int p0), some (.int p1), some (.int p2), some (.int p3), none]) (st' := [.int p3]) (fun _ => rfl) ?_
    obtain ⟨⟨v5, S4⟩, hv5, h⟩ := obind h
    try dsimp only at h
    refine pE_is (Bs := [.int p3]) (st := []) rfl rfl rfl (Nat.le_of_ble_eq_true rfl) (Nat.le_of_ble_eq_true rfl) (f_M_isNumberOfHouse sp (d + 3) N S2 p3 _ hv5) ?_
    refine pE_br (¬ v5 = 0) rfl rfl (fun c12 => ?_) (fun c12 => ?_)
    · rw [if_neg c12] at h
      refine pE_jump 4 (pc' := 30) (ls' := [some (.ref a), some (.int p0), some (.int p1), some (.int p2), some (.int p3), none]) (st' := [.int p2, .int p1, .int p0, .ref a]) (fun _ => rfl) ?_
      obtain ⟨S6, hS6, h⟩ := obind h
      refine pE_iv (Bs := [.int p0, .int p1, .int p2]) (st := []) 1 rfl (Or.inl ⟨rfl, rfl⟩) rfl rfl (Nat.le_of_ble_eq_true rfl) (Nat.le_of_ble_eq_true rfl) (g_M_lay hS6) (f_M_lay sp (d + 2) N S4 a p0 p1 p2 _ hS6) ?_
      refine pE_jump 2 (pc' := 36) (ls' := [some (.ref a), some (.int p0), some (.int p1), some (.int p2), some (.int p3), none]) (st' := [.int p3, .ref a]) (fun _ => rfl) ?_
      obtain ⟨⟨v8, S7⟩, hv8, h⟩ := obind h
      try dsimp only at h
      refine pE_iv (Bs := [.int p3]) (st := []) 1 rfl (Or.inl ⟨rfl, rfl⟩) rfl rfl (Nat.le_of_ble_eq_true rfl) (Nat.le_of_ble_eq_true rfl) (g_M_hangsAt hv8) (f_M_hangsAt sp (d + 4) N S6 a p3 _ hv8) ?_
      refine pE_jump 3 (pc' := 44) (ls' := [some (.ref a), some (.int p0), some (.int p1), some (.int p2), some (.int p3), some (.int v8)]) (st' := [.int (-1), .int v8]) (fun _ => rfl) ?_
      refine pE_br (¬ v8 = (-1)) rfl rfl (fun c11 => ?_) (fun c11 => ?_)
      · rw [if_neg c11] at h
        refine pE_jump 3 (pc' := 58) (ls' := [some (.ref a), some (.int p0), some (.int p1), some (.int p2), some (.int p3), some (.int v8)]) (st' := [.int 6, .int v8, .ref a]) (fun _ => rfl) ?_
        refine pE_jump 1 (pc' := 59) (ls' := [some (.ref a), some (.int p0), some (.int p1), some (.int p2), some (.int p3), some (.int v8)]) (st' := [.int (v8 / 6), .ref a]) (fun _ => rfl) ?_
        refine pE_jump 2 (pc' := 63) (ls' := [some (.ref a), some (.int p0), some (.int p1), some (.int p2), some (.int p3), some (.int v8)]) (st' := [.int 6, .int v8, .int (v8 / 6), .ref a]) (fun _ => rfl) ?_
        refine pE_jump 1 (pc' := 64) (ls' := [some (.ref a), some (.int p0), some (.int p1), some (.int p2), some (.int p3), some (.int v8)]) (st' := [.int (v8 - v8 / 6 * 6), .int (v8 / 6), .ref a]) (fun _ => rfl) ?_
        obtain ⟨⟨v10, S9⟩, hv10, h⟩ := obind h
        try dsimp only at h
        refine pE_iv (Bs := [.int (v8 / 6), .int (v8 - v8 / 6 * 6)]) (st := []) 1 rfl (Or.inl ⟨rfl, rfl⟩) rfl rfl (Nat.le_of_ble_eq_true rfl) (Nat.le_of_ble_eq_true rfl) (g_M_feeds hv10) (f_M_feeds sp d N S7 a (v8 / 6) (v8 - v8 / 6 * 6) _ hv10) ?_
        refine pE_weak [none, none, none, none, none, none] trivial ?_
        exact f_M_fed_67 sp d N v10 S9 _ h
      · have c11 := Decidable.not_not.mp c11
        rw [if_pos c11] at h
        refine pE_jump 2 (pc' := 67) (ls' := [some (.ref a), some (.int p0), some (.int p1), some (.int p2), some (.int p3), some (.int v8)]) (st' := [.long (-1)]) (fun _ => rfl) ?_
        refine pE_weak [none, none, none, none, none, none] trivial ?_
        exact f_M_fed_67 sp d N (-1) S7 _ h
    · have c12 := Decidable.not_not.mp c12
      rw [if_pos c12] at h
      refine pE_weak [none, none, none, none, none, none] trivial ?_
      exact f_M_fed_22 sp d N S4 _ h
def F_M_served_191 (N : Nat)  (x4 : Int32) (S : pm_S) : Option (Int32 × pm_S) :=
    some (x4, S)
set_option maxHeartbeats 4000000 in
set_option maxRecDepth 20000 in
theorem f_M_served_191 (sp : pm_I → List Value → pm_S → pm_O → Prop) (d N : Nat)  (x4 : Int32) (S : pm_S)  (r : (Int32 × pm_S)) (h : F_M_served_191 N  x4 S = some r) : pmE pG (pm_rel pG sp (d + 5)) mi_M_served 191 [none, none, none, none, some (.int x4), none, none, none] [] S (some (.int r.1), r.2) := by
  unfold F_M_served_191 at h
  refine pE_jump 1 (pc' := 193) (ls' := [none, none, none, none, some (.int x4), none, none, none]) (st' := [.int x4]) (fun _ => rfl) ?_
  cases h
  exact pE_ret rfl rfl rfl
def F_M_served_182 (N : Nat) (rec84 : Int32 → Int32 → pm_S → Option (Int32 × pm_S)) (x0 : Nat) (x5 : Int32) (t0 : Int32) (t1 : Int32) (S : pm_S) : Option (Int32 × pm_S) :=
    rec84 (t1 ||| t0) (x5 + 1) S
set_option maxHeartbeats 4000000 in
set_option maxRecDepth 20000 in
theorem f_M_served_182 (sp : pm_I → List Value → pm_S → pm_O → Prop) (d N : Nat) (rec84 : Int32 → Int32 → pm_S → Option (Int32 × pm_S)) (x0 : Nat) (x5 : Int32) (t0 : Int32) (t1 : Int32) (S : pm_S) (hrec84 : ∀ (y1 : Int32) (y2 : Int32) (U : pm_S) (r : (Int32 × pm_S)), rec84 y1 y2 U = some r → pmE pG (pm_rel pG sp (d + 5)) mi_M_served 84 [some (.ref x0), none, none, none, some (.int y1), some (.int y2), none, none] [] U (some (.int r.1), r.2)) (r : (Int32 × pm_S)) (h : F_M_served_182 N rec84 x0 x5 t0 t1 S = some r) : pmE pG (pm_rel pG sp (d + 5)) mi_M_served 182 [some (.ref x0), none, none, none, none, some (.int x5), none, none] [.int t0, .int t1] S (some (.int r.1), r.2) := by
  unfold F_M_served_182 at h
  refine pE_jump 4 (pc' := 84) (ls' := [some (.ref x0), none, none, none, some (.int (t1 ||| t0)), some (.int (x5 + 1)), none, none]) (st' := []) (fun _ => rfl) ?_
  exact hrec84 (t1 ||| t0) (x5 + 1) S _ h
def F_M_served_167 (N : Nat) (rec84 : Int32 → Int32 → pm_S → Option (Int32 × pm_S)) (x0 : Nat) (x4 : Int32) (x5 : Int32) (x6 : Int32) (S : pm_S) : Option (Int32 × pm_S) :=
    if x6 = 0 then
    F_M_served_182 N rec84 x0 x5 0 x4 S
    else
    F_M_served_182 N rec84 x0 x5 (1 <<< (x5 &&& 31)) x4 S
set_option maxHeartbeats 4000000 in
set_option maxRecDepth 20000 in
theorem f_M_served_167 (sp : pm_I → List Value → pm_S → pm_O → Prop) (d N : Nat) (rec84 : Int32 → Int32 → pm_S → Option (Int32 × pm_S)) (x0 : Nat) (x4 : Int32) (x5 : Int32) (x6 : Int32) (S : pm_S) (hrec84 : ∀ (y1 : Int32) (y2 : Int32) (U : pm_S) (r : (Int32 × pm_S)), rec84 y1 y2 U = some r → pmE pG (pm_rel pG sp (d + 5)) mi_M_served 84 [some (.ref x0), none, none, none, some (.int y1), some (.int y2), none, none] [] U (some (.int r.1), r.2)) (r : (Int32 × pm_S)) (h : F_M_served_167 N rec84 x0 x4 x5 x6 S = some r) : pmE pG (pm_rel pG sp (d + 5)) mi_M_served 167 [some (.ref x0), none, none, none, some (.int x4), some (.int x5), some (.int x6), none] [] S (some (.int r.1), r.2) := by
  unfold F_M_served_167 at h
  refine pE_jump 2 (pc' := 171) (ls' := [some (.ref x0), none, none, none, some (.int x4), some (.int x5), some (.int x6), none]) (st' := [.int x6, .int x4]) (fun _ => rfl) ?_
  refine pE_br (x6 = 0) rfl rfl (fun c9 => ?_) (fun c9 => ?_)
  · rw [if_pos c9] at h
    refine pE_jump 1 (pc' := 182) (ls' := [some (.ref x0), none, none, none, some (.int x4), some (.int x5), some (.int x6), none]) (st' := [.int 0, .int x4]) (fun _ => rfl) ?_
    refine pE_weak [some (.ref x0), none, none, none, none, some (.int x5), none, none] ⟨rfl, ⟨rfl, trivial⟩⟩ ?_
    exact f_M_served_182 sp d N rec84 x0 x5 0 x4 S hrec84 _ h
  · rw [if_neg c9] at h
    refine pE_jump 4 (pc' := 182) (ls' := [some (.ref x0), none, none, none, some (.int x4), some (.int x5), some (.int x6), none]) (st' := [.int (1 <<< (x5 &&& 31)), .int x4]) (fun _ => rfl) ?_
    refine pE_weak [some (.ref x0), none, none, none, none, some (.int x5), none, none] ⟨rfl, ⟨rfl, trivial⟩⟩ ?_
    exact f_M_served_182 sp d N rec84 x0 x5 (1 <<< (x5 &&& 31)) x4 S hrec84 _ h
def F_M_served_159 (N : Nat) (rec84 : Int32 → Int32 → pm_S → Option (Int32 × pm_S)) (rec115 : Int32 → Int32 → pm_S → Option (Int32 × pm_S)) (x0 : Nat) (x4 : Int32) (x5 : Int32) (x7 : Int32) (t0 : Int32) (S : pm_S) : Option (Int32 × pm_S) :=
    rec115 t0 (x7 + 1) S
set_option maxHeartbeats 4000000 in
set_option maxRecDepth 20000 in
theorem f_M_served_159 (sp : pm_I → List Value → pm_S → pm_O → Prop) (d N : Nat) (rec84 : Int32 → Int32 → pm_S → Option (Int32 × pm_S)) (rec115 : Int32 → Int32 → pm_S → Option (Int32 × pm_S)) (x0 : Nat) (x4 : Int32) (x5 : Int32) (x7 : Int32) (t0 : Int32) (S : pm_S) (hrec84 : ∀ (y1 : Int32) (y2 : Int32) (U : pm_S) (r : (Int32 × pm_S)), rec84 y1 y2 U = some r → pmE pG (pm_rel pG sp (d + 5)) mi_M_served 84 [some (.ref x0), none, none, none, some (.int y1), some (.int y2), none, none] [] U (some (.int r.1), r.2)) (hrec115 : ∀ (y1 : Int32) (y2 : Int32) (U : pm_S) (r : (Int32 × pm_S)), rec115 y1 y2 U = some r → pmE pG (pm_rel pG sp (d + 5)) mi_M_served 115 [some (.ref x0), none, none, none, some (.int x4), some (.int x5), some (.int y1), some (.int y2)] [] U (some (.int r.1), r.2)) (r : (Int32 × pm_S)) (h : F_M_served_159 N rec84 rec115 x0 x4 x5 x7 t0 S = some r) : pmE pG (pm_rel pG sp (d + 5)) mi_M_served 159 [some (.ref x0), none, none, none, some (.int x4), some (.int x5), none, some (.int x7)] [.int t0] S (some (.int r.1), r.2) := by
  unfold F_M_served_159 at h
  refine pE_jump 3 (pc' := 115) (ls' := [some (.ref x0), none, none, none, some (.int x4), some (.int x5), some (.int t0), some (.int (x7 + 1))]) (st' := []) (fun _ => rfl) ?_
  exact hrec115 t0 (x7 + 1) S _ h
def F_M_served_158 (N : Nat) (rec84 : Int32 → Int32 → pm_S → Option (Int32 × pm_S)) (rec115 : Int32 → Int32 → pm_S → Option (Int32 × pm_S)) (x0 : Nat) (x4 : Int32) (x5 : Int32) (x7 : Int32) (S : pm_S) : Option (Int32 × pm_S) :=
    F_M_served_159 N rec84 rec115 x0 x4 x5 x7 0 S
set_option maxHeartbeats 4000000 in
set_option maxRecDepth 20000 in
theorem f_M_served_158 (sp : pm_I → List Value → pm_S → pm_O → Prop) (d N : Nat) (rec84 : Int32 → Int32 → pm_S → Option (Int32 × pm_S)) (rec115 : Int32 → Int32 → pm_S → Option (Int32 × pm_S)) (x0 : Nat) (x4 : Int32) (x5 : Int32) (x7 : Int32) (S : pm_S) (hrec84 : ∀ (y1 : Int32) (y2 : Int32) (U : pm_S) (r : (Int32 × pm_S)), rec84 y1 y2 U = some r → pmE pG (pm_rel pG sp (d + 5)) mi_M_served 84 [some (.ref x0), none, none, none, some (.int y1), some (.int y2), none, none] [] U (some (.int r.1), r.2)) (hrec115 : ∀ (y1 : Int32) (y2 : Int32) (U : pm_S) (r : (Int32 × pm_S)), rec115 y1 y2 U = some r → pmE pG (pm_rel pG sp (d + 5)) mi_M_served 115 [some (.ref x0), none, none, none, some (.int x4), some (.int x5), some (.int y1), some (.int y2)] [] U (some (.int r.1), r.2)) (r : (Int32 × pm_S)) (h : F_M_served_158 N rec84 rec115 x0 x4 x5 x7 S = some r) : pmE pG (pm_rel pG sp (d + 5)) mi_M_served 158 [some (.ref x0), none, none, none, some (.int x4), some (.int x5), none, some (.int x7)] [] S (some (.int r.1), r.2) := by
  unfold F_M_served_158 at h
  refine pE_jump 1 (pc' := 159) (ls' := [some (.ref x0), none, none, none, some (.int x4), some (.int x5), none, some (.int x7)]) (st' := [.int 0]) (fun _ => rfl) ?_
  exact f_M_served_159 sp d N rec84 rec115 x0 x4 x5 x7 0 S hrec84 hrec115 _ h
def F_M_served_154 (N : Nat) (rec84 : Int32 → Int32 → pm_S → Option (Int32 × pm_S)) (rec115 : Int32 → Int32 → pm_S → Option (Int32 × pm_S)) (x0 : Nat) (x4 : Int32) (x5 : Int32) (x7 : Int32) (S : pm_S) : Option (Int32 × pm_S) :=
    F_M_served_159 N rec84 rec115 x0 x4 x5 x7 1 S
set_option maxHeartbeats 4000000 in
set_option maxRecDepth 20000 in
theorem f_M_served_154 (sp : pm_I → List Value → pm_S → pm_O → Prop) (d N : Nat) (rec84 : Int32 → Int32 → pm_S → Option (Int32 × pm_S)) (rec115 : Int32 → Int32 → pm_S → Option (Int32 × pm_S)) (x0 : Nat) (x4 : Int32) (x5 : Int32) (x7 : Int32) (S : pm_S) (hrec84 : ∀ (y1 : Int32) (y2 : Int32) (U : pm_S) (r : (Int32 × pm_S)), rec84 y1 y2 U = some r → pmE pG (pm_rel pG sp (d + 5)) mi_M_served 84 [some (.ref x0), none, none, none, some (.int y1), some (.int y2), none, none] [] U (some (.int r.1), r.2)) (hrec115 : ∀ (y1 : Int32) (y2 : Int32) (U : pm_S) (r : (Int32 × pm_S)), rec115 y1 y2 U = some r → pmE pG (pm_rel pG sp (d + 5)) mi_M_served 115 [some (.ref x0), none, none, none, some (.int x4), some (.int x5), some (.int y1), some (.int y2)] [] U (some (.int r.1), r.2)) (r : (Int32 × pm_S)) (h : F_M_served_154 N rec84 rec115 x0 x4 x5 x7 S = some r) : pmE pG (pm_rel pG sp (d + 5)) mi_M_served 154 [some (.ref x0), none, none, none, some (.int x4), some (.int x5), none, some (.int x7)] [] S (some (.int r.1), r.2) := by
  unfold F_M_served_154 at h
  refine pE_jump 2 (pc' := 159) (ls' := [some (.ref x0), none, none, none, some (.int x4), some (.int x5), none, some (.int x7)]) (st' := [.int 1]) (fun _ => rfl) ?_
  exact f_M_served_159 sp d N rec84 rec115 x0 x4 x5 x7 1 S hrec84 hrec115 _ h
def B_M_served_115 (N : Nat) (rec84 : Int32 → Int32 → pm_S → Option (Int32 × pm_S)) (rec115 : Int32 → Int32 → pm_S → Option (Int32 × pm_S)) (x0 : Nat) (x4 : Int32) (x5 : Int32) (x6 : Int32) (x7 : Int32) (S : pm_S) : Option (Int32 × pm_S) :=
    if 10 ≤ x7 then
    F_M_served_167 N rec84 x0 x4 x5 x6 S
    else
    (if x6 = 0 then
    F_M_served_158 N rec84 rec115 x0 x4 x5 x7 S
    else
    (if x7 = x5 then
    F_M_served_154 N rec84 rec115 x0 x4 x5 x7 S
    else
    ((oR S x0 11 36).bind fun oq10 => match oq10 with
    | none => none
    | some q10 =>
    (aJ S q10 x7).bind fun v11 =>
    (oR S x0 11 36).bind fun oq12 => match oq12 with
    | none => none
    | some q12 =>
    (aJ S q12 x5).bind fun v13 =>
    if (lg_cmp (v11 &&& v13) 0) = 0 then
    F_M_served_154 N rec84 rec115 x0 x4 x5 x7 S
    else
    F_M_served_158 N rec84 rec115 x0 x4 x5 x7 S)))
def F_M_served_115 (N : Nat) (rec84 : Int32 → Int32 → pm_S → Option (Int32 × pm_S)) (x0 : Nat) (x4 : Int32) (x5 : Int32) : Nat → Int32 → Int32 → pm_S → Option (Int32 × pm_S)
  | 0 => fun _ _ _ => none
  | n + 1 => fun x6 x7 S => B_M_served_115 N rec84 (F_M_served_115 N rec84 x0 x4 x5 n) x0 x4 x5 x6 x7 S
set_option maxHeartbeats 4000000 in
set_option maxRecDepth 20000 in
theorem f_M_served_115 (sp : pm_I → List Value → pm_S → pm_O → Prop) (d N : Nat) (rec84 : Int32 → Int32 → pm_S → Option (Int32 × pm_S)) (x0 : Nat) (x4 : Int32) (x5 : Int32) (hrec84 : ∀ (y1 : Int32) (y2 : Int32) (U : pm_S) (r : (Int32 × pm_S)), rec84 y1 y2 U = some r → pmE pG (pm_rel pG sp (d + 5)) mi_M_served 84 [some (.ref x0), none, none, none, some (.int y1), some (.int y2), none, none] [] U (some (.int r.1), r.2)) : ∀ (n : Nat) (x6 : Int32) (x7 : Int32) (S : pm_S) (r : (Int32 × pm_S)), F_M_served_115 N rec84 x0 x4 x5 n x6 x7 S = some r → pmE pG (pm_rel pG sp (d + 5)) mi_M_served 115 [some (.ref x0), none, none, none, some (.int x4), some (.int x5), some (.int x6), some (.int x7)] [] S (some (.int r.1), r.2) := by
  intro n
  induction n with
  | zero =>
    intro x6 x7 S r h
    cases h
  | succ n ih =>
    intro x6 x7 S r h
    replace h : B_M_served_115 N rec84 (F_M_served_115 N rec84 x0 x4 x5 n) x0 x4 x5 x6 x7 S = some r := h
    have hrec115 := ih
    generalize F_M_served_115 N rec84 x0 x4 x5 n = rec115 at h hrec115
    unfold B_M_served_115 at h
    refine pE_jump 2 (pc' := 119) (ls' := [some (.ref x0), none, none, none, some (.int x4), some (.int x5), some (.int x6), some (.int x7)]) (st' := [.int 10, .int x7]) (fun _ => rfl) ?_
    refine pE_br (10 ≤ x7) rfl rfl (fun c17 => ?_) (fun c17 => ?_)
    · rw [if_pos c17] at h
      refine pE_weak [some (.ref x0), none, none, none, some (.int x4), some (.int x5), some (.int x6), none] ⟨rfl, ⟨rfl, ⟨rfl, ⟨rfl, trivial⟩⟩⟩⟩ ?_
      exact f_M_served_167 sp d N rec84 x0 x4 x5 x6 S hrec84 _ h
    · rw [if_neg c17] at h
      refine pE_jump 1 (pc' := 124) (ls' := [some (.ref x0), none, none, none, some (.int x4), some (.int x5), some (.int x6), some (.int x7)]) (st' := [.int x6]) (fun _ => rfl) ?_
      refine pE_br (x6 = 0) rfl rfl (fun c16 => ?_) (fun c16 => ?_)
      · rw [if_pos c16] at h
        refine pE_weak [some (.ref x0), none, none, none, some (.int x4), some (.int x5), none, some (.int x7)] ⟨rfl, ⟨rfl, ⟨rfl, ⟨rfl, trivial⟩⟩⟩⟩ ?_
        exact f_M_served_158 sp d N rec84 rec115 x0 x4 x5 x7 S hrec84 hrec115 _ h
      · rw [if_neg c16] at h
        refine pE_jump 2 (pc' := 131) (ls' := [some (.ref x0), none, none, none, some (.int x4), some (.int x5), some (.int x6), some (.int x7)]) (st' := [.int x5, .int x7]) (fun _ => rfl) ?_
        refine pE_br (x7 = x5) rfl rfl (fun c15 => ?_) (fun c15 => ?_)
        · rw [if_pos c15] at h
          refine pE_weak [some (.ref x0), none, none, none, some (.int x4), some (.int x5), none, some (.int x7)] ⟨rfl, ⟨rfl, ⟨rfl, ⟨rfl, trivial⟩⟩⟩⟩ ?_
          exact f_M_served_154 sp d N rec84 rec115 x0 x4 x5 x7 S hrec84 hrec115 _ h
        · rw [if_neg c15] at h
          refine pE_jump 1 (pc' := 135) (ls' := [some (.ref x0), none, none, none, some (.int x4), some (.int x5), some (.int x6), some (.int x7)]) (st' := [.ref x0]) (fun _ => rfl) ?_
          obtain ⟨oq10, hq10, h⟩ := obind h
          cases oq10 with
          | none => cases h
          | some q10 =>
            try dsimp only at h
            refine pE_gfS rfl rfl hq10 ?_
            refine pE_jump 1 (pc' := 140) (ls' := [some (.ref x0), none, none, none, some (.int x4), some (.int x5), some (.int x6), some (.int x7)]) (st' := [.int x7, .ref q10]) (fun _ => rfl) ?_
            obtain ⟨v11, hv11, h⟩ := obind h
            refine pE_aJ rfl hv11 ?_
            refine pE_jump 1 (pc' := 142) (ls' := [some (.ref x0), none, none, none, some (.int x4), some (.int x5), some (.int x6), some (.int x7)]) (st' := [.ref x0, .long v11]) (fun _ => rfl) ?_
            obtain ⟨oq12, hq12, h⟩ := obind h
            cases oq12 with
            | none => cases h
            | some q12 =>
              try dsimp only at h
              refine pE_gfS rfl rfl hq12 ?_
              refine pE_jump 1 (pc' := 147) (ls' := [some (.ref x0), none, none, none, some (.int x4), some (.int x5), some (.int x6), some (.int x7)]) (st' := [.int x5, .ref q12, .long v11]) (fun _ => rfl) ?_
              obtain ⟨v13, hv13, h⟩ := obind h
              refine pE_aJ rfl hv13 ?_
              refine pE_jump 3 (pc' := 151) (ls' := [some (.ref x0), none, none, none, some (.int x4), some (.int x5), some (.int x6), some (.int x7)]) (st' := [.int (lg_cmp (v11 &&& v13) 0)]) (fun _ => rfl) ?_
              refine pE_br (¬ (lg_cmp (v11 &&& v13) 0) = 0) rfl rfl (fun c14 => ?_) (fun c14 => ?_)
              · rw [if_neg c14] at h
                refine pE_weak [some (.ref x0), none, none, none, some (.int x4), some (.int x5), none, some (.int x7)] ⟨rfl, ⟨rfl, ⟨rfl, ⟨rfl, trivial⟩⟩⟩⟩ ?_
                exact f_M_served_158 sp d N rec84 rec115 x0 x4 x5 x7 S hrec84 hrec115 _ h
              · have c14 := Decidable.not_not.mp c14
                rw [if_pos c14] at h
                refine pE_weak [some (.ref x0), none, none, none, some (.int x4), some (.int x5), none, some (.int x7)] ⟨rfl, ⟨rfl, ⟨rfl, ⟨rfl, trivial⟩⟩⟩⟩ ?_
                exact f_M_served_154 sp d N rec84 rec115 x0 x4 x5 x7 S hrec84 hrec115 _ h
def F_M_served_110 (N : Nat) (rec84 : Int32 → Int32 → pm_S → Option (Int32 × pm_S)) (x0 : Nat) (x4 : Int32) (x5 : Int32) (t0 : Int32) (S : pm_S) : Option (Int32 × pm_S) :=
    F_M_served_115 N rec84 x0 x4 x5 N t0 0 S
set_option maxHeartbeats 4000000 in
set_option maxRecDepth 20000 in
theorem f_M_served_110 (sp : pm_I → List Value → pm_S → pm_O → Prop) (d N : Nat) (rec84 : Int32 → Int32 → pm_S → Option (Int32 × pm_S)) (x0 : Nat) (x4 : Int32) (x5 : Int32) (t0 : Int32) (S : pm_S) (hrec84 : ∀ (y1 : Int32) (y2 : Int32) (U : pm_S) (r : (Int32 × pm_S)), rec84 y1 y2 U = some r → pmE pG (pm_rel pG sp (d + 5)) mi_M_served 84 [some (.ref x0), none, none, none, some (.int y1), some (.int y2), none, none] [] U (some (.int r.1), r.2)) (r : (Int32 × pm_S)) (h : F_M_served_110 N rec84 x0 x4 x5 t0 S = some r) : pmE pG (pm_rel pG sp (d + 5)) mi_M_served 110 [some (.ref x0), none, none, none, some (.int x4), some (.int x5), none, none] [.int t0] S (some (.int r.1), r.2) := by
  unfold F_M_served_110 at h
  refine pE_jump 3 (pc' := 115) (ls' := [some (.ref x0), none, none, none, some (.int x4), some (.int x5), some (.int t0), some (.int 0)]) (st' := []) (fun _ => rfl) ?_
  exact f_M_served_115 sp d N rec84 x0 x4 x5 hrec84 N t0 0 S _ h
def B_M_served_84 (N : Nat)  (rec84 : Int32 → Int32 → pm_S → Option (Int32 × pm_S)) (x0 : Nat) (x4 : Int32) (x5 : Int32) (S : pm_S) : Option (Int32 × pm_S) :=
    if 10 ≤ x5 then
    F_M_served_191 N x4 S
    else
    ((oR S x0 11 36).bind fun oq5 => match oq5 with
    | none => none
    | some q5 =>
    (aJ S q5 x5).bind fun v6 =>
    (F_Lng_bitCount N S v6).bind fun (v8, S7) =>
    if v8 = 1 then
    F_M_served_110 N rec84 x0 x4 x5 1 S7
    else
    F_M_served_110 N rec84 x0 x4 x5 0 S7)
def F_M_served_84 (N : Nat)  (x0 : Nat) : Nat → Int32 → Int32 → pm_S → Option (Int32 × pm_S)
  | 0 => fun _ _ _ => none
  | n + 1 => fun x4 x5 S => B_M_served_84 N  (F_M_served_84 N  x0 n) x0 x4 x5 S
set_option maxHeartbeats 4000000 in
set_option maxRecDepth 20000 in
theorem f_M_served_84 (sp : pm_I → List Value → pm_S → pm_O → Prop) (d N : Nat)  (x0 : Nat)  : ∀ (n : Nat) (x4 : Int32) (x5 : Int32) (S : pm_S) (r : (Int32 × pm_S)), F_M_served_84 N  x0 n x4 x5 S = some r → pmE pG (pm_rel pG sp (d + 5)) mi_M_served 84 [some (.ref x0), none, none, none, some (.int x4), some (.int x5), none, none] [] S (some (.int r.1), r.2) := by
  intro n
  induction n with
  | zero =>
    intro x4 x5 S r h
    cases h
  | succ n ih =>
    intro x4 x5 S r h
    replace h : B_M_served_84 N  (F_M_served_84 N  x0 n) x0 x4 x5 S = some r := h
    have hrec84 := ih
    generalize F_M_served_84 N  x0 n = rec84 at h hrec84
    unfold B_M_served_84 at h
    refine pE_jump 2 (pc' := 88) (ls' := [some (.ref x0), none, none, none, some (.int x4), some (.int x5), none, none]) (st' := [.int 10, .int x5]) (fun _ => rfl) ?_
    refine pE_br (10 ≤ x5) rfl rfl (fun c19 => ?_) (fun c19 => ?_)
    · rw [if_pos c19] at h
      refine pE_weak [none, none, none, none, some (.int x4), none, none, none] ⟨rfl, trivial⟩ ?_
      exact f_M_served_191 sp d N x4 S _ h
    · rw [if_neg c19] at h
      refine pE_jump 1 (pc' := 92) (ls' := [some (.ref x0), none, none, none, some (.int x4), some (.int x5), none, none]) (st' := [.ref x0]) (fun _ => rfl) ?_
      obtain ⟨oq5, hq5, h⟩ := obind h
      cases oq5 with
      | none => cases h
      | some q5 =>
        try dsimp only at h
        refine pE_gfS rfl rfl hq5 ?_
        refine pE_jump 1 (pc' := 97) (ls' := [some (.ref x0), none, none, none, some (.int x4), some (.int x5), none, none]) (st' := [.int x5, .ref q5]) (fun _ => rfl) ?_
        obtain ⟨v6, hv6, h⟩ := obind h
        refine pE_aJ rfl hv6 ?_
        obtain ⟨⟨v8, S7⟩, hv8, h⟩ := obind h
        try dsimp only at h
        refine pE_is (Bs := [.long v6]) (st := []) rfl rfl rfl (Nat.le_of_ble_eq_true rfl) (Nat.le_of_ble_eq_true rfl) (f_Lng_bitCount sp (d + 4) N S v6 _ hv8) ?_
        refine pE_jump 1 (pc' := 102) (ls' := [some (.ref x0), none, none, none, some (.int x4), some (.int x5), none, none]) (st' := [.int 1, .int v8]) (fun _ => rfl) ?_
        refine pE_br (¬ v8 = 1) rfl rfl (fun c18 => ?_) (fun c18 => ?_)
        · rw [if_neg c18] at h
          refine pE_jump 1 (pc' := 110) (ls' := [some (.ref x0), none, none, none, some (.int x4), some (.int x5), none, none]) (st' := [.int 0]) (fun _ => rfl) ?_
          exact f_M_served_110 sp d N rec84 x0 x4 x5 0 S7 hrec84 _ h
        · have c18 := Decidable.not_not.mp c18
          rw [if_pos c18] at h
          refine pE_jump 2 (pc' := 110) (ls' := [some (.ref x0), none, none, none, some (.int x4), some (.int x5), none, none]) (st' := [.int 1]) (fun _ => rfl) ?_
          exact f_M_served_110 sp d N rec84 x0 x4 x5 1 S7 hrec84 _ h
def F_M_served_78 (N : Nat)  (x0 : Nat) (S : pm_S) : Option (Int32 × pm_S) :=
    F_M_served_84 N x0 N 0 0 S
set_option maxHeartbeats 4000000 in
set_option maxRecDepth 20000 in
theorem f_M_served_78 (sp : pm_I → List Value → pm_S → pm_O → Prop) (d N : Nat)  (x0 : Nat) (S : pm_S)  (r : (Int32 × pm_S)) (h : F_M_served_78 N  x0 S = some r) : pmE pG (pm_rel pG sp (d + 5)) mi_M_served 78 [some (.ref x0), none, none, none, none, none, none, none] [] S (some (.int r.1), r.2) := by
  unfold F_M_served_78 at h
  refine pE_jump 4 (pc' := 84) (ls' := [some (.ref x0), none, none, none, some (.int 0), some (.int 0), none, none]) (st' := []) (fun _ => rfl) ?_
  exact f_M_served_84 sp d N x0 N 0 0 S _ h
def F_M_served_71_2 (N : Nat) (rec26 : Int32 → pm_S → Option (Int32 × pm_S)) (x0 : Nat) (x4 : Int32) (t0 : Int64) (t1 : Int32) (t2 : Nat) (S : pm_S) : Option (Int32 × pm_S) :=
    (sJ S t2 t1 t0).bind fun S25 =>
    rec26 (x4 + 1) S25
set_option maxHeartbeats 4000000 in
set_option maxRecDepth 20000 in
theorem f_M_served_71_2 (sp : pm_I → List Value → pm_S → pm_O → Prop) (d N : Nat) (rec26 : Int32 → pm_S → Option (Int32 × pm_S)) (x0 : Nat) (x4 : Int32) (t0 : Int64) (t1 : Int32) (t2 : Nat) (S : pm_S) (hrec26 : ∀ (y1 : Int32) (U : pm_S) (r : (Int32 × pm_S)), rec26 y1 U = some r → pmE pG (pm_rel pG sp (d + 5)) mi_M_served 26 [some (.ref x0), none, none, none, some (.int y1), none, none, none] [] U (some (.int r.1), r.2)) (r : (Int32 × pm_S)) (h : F_M_served_71_2 N rec26 x0 x4 t0 t1 t2 S = some r) : pmE pG (pm_rel pG sp (d + 5)) mi_M_served 71 [some (.ref x0), none, none, none, some (.int x4), none, none, none] [.long t0, .int t1, .ref t2] S (some (.int r.1), r.2) := by
  unfold F_M_served_71_2 at h
  obtain ⟨S25, hS25, h⟩ := obind h
  refine pE_sJ rfl hS25 ?_
  refine pE_jump 2 (pc' := 26) (ls' := [some (.ref x0), none, none, none, some (.int (x4 + 1)), none, none, none]) (st' := []) (fun _ => rfl) ?_
  exact hrec26 (x4 + 1) S25 _ h
def B_M_served_26 (N : Nat)  (rec26 : Int32 → pm_S → Option (Int32 × pm_S)) (x0 : Nat) (x4 : Int32) (S : pm_S) : Option (Int32 × pm_S) :=
    if 10 ≤ x4 then
    F_M_served_78 N x0 S
    else
    ((F_M_hangsAt N S x0 x4).bind fun (v21, S20) =>
    (oR S20 x0 11 36).bind fun oq22 => match oq22 with
    | none => none
    | some q22 =>
    if v21 = (-1) then
    F_M_served_71_2 N rec26 x0 x4 0 x4 q22 S20
    else
    ((F_M_feeds N S20 x0 (v21 / 6) (v21 - v21 / 6 * 6)).bind fun (v27, S26) =>
    F_M_served_71_2 N rec26 x0 x4 v27 x4 q22 S26))
def F_M_served_26 (N : Nat)  (x0 : Nat) : Nat → Int32 → pm_S → Option (Int32 × pm_S)
  | 0 => fun _ _ => none
  | n + 1 => fun x4 S => B_M_served_26 N  (F_M_served_26 N  x0 n) x0 x4 S
set_option maxHeartbeats 4000000 in
set_option maxRecDepth 20000 in
theorem f_M_served_26 (sp : pm_I → List Value → pm_S → pm_O → Prop) (d N : Nat)  (x0 : Nat)  : ∀ (n : Nat) (x4 : Int32) (S : pm_S) (r : (Int32 × pm_S)), F_M_served_26 N  x0 n x4 S = some r → pmE pG (pm_rel pG sp (d + 5)) mi_M_served 26 [some (.ref x0), none, none, none, some (.int x4), none, none, none] [] S (some (.int r.1), r.2) := by
  intro n
  induction n with
  | zero =>
    intro x4 S r h
    cases h
  | succ n ih =>
    intro x4 S r h
    replace h : B_M_served_26 N  (F_M_served_26 N  x0 n) x0 x4 S = some r := h
    have hrec26 := ih
    generalize F_M_served_26 N  x0 n = rec26 at h hrec26
    unfold B_M_served_26 at h
    refine pE_jump 2 (pc' := 30) (ls' := [some (.ref x0), none, none, none, some (.int x4), none, none, none]) (st' := [.int 10, .int x4]) (fun _ => rfl) ?_
    refine pE_br (10 ≤ x4) rfl rfl (fun c29 => ?_) (fun c29 => ?_)
    · rw [if_pos c29] at h
      refine pE_weak [some (.ref x0), none, none, none, none, none, none, none] ⟨rfl, trivial⟩ ?_
      exact f_M_served_78 sp d N x0 S _ h
    · rw [if_neg c29] at h
      refine pE_jump 2 (pc' := 36) (ls' := [some (.ref x0), none, none, none, some (.int x4), none, none, none]) (st' := [.int x4, .ref x0]) (fun _ => rfl) ?_
      obtain ⟨⟨v21, S20⟩, hv21, h⟩ := obind h
      try dsimp only at h
      refine pE_iv (Bs := [.int x4]) (st := []) 1 rfl (Or.inl ⟨rfl, rfl⟩) rfl rfl (Nat.le_of_ble_eq_true rfl) (Nat.le_of_ble_eq_true rfl) (g_M_hangsAt hv21) (f_M_hangsAt sp (d + 4) N S x0 x4 _ hv21) ?_
      refine pE_jump 2 (pc' := 42) (ls' := [some (.ref x0), none, none, none, some (.int x4), some (.int v21), none, none]) (st' := [.ref x0]) (fun _ => rfl) ?_
      obtain ⟨oq22, hq22, h⟩ := obind h
      cases oq22 with
      | none => cases h
      | some q22 =>
        try dsimp only at h
        refine pE_gfS rfl rfl hq22 ?_
        refine pE_jump 3 (pc' := 50) (ls' := [some (.ref x0), none, none, none, some (.int x4), some (.int v21), none, none]) (st' := [.int (-1), .int v21, .int x4, .ref q22]) (fun _ => rfl) ?_
        refine pE_br (¬ v21 = (-1)) rfl rfl (fun c28 => ?_) (fun c28 => ?_)
        · rw [if_neg c28] at h
          refine pE_jump 3 (pc' := 62) (ls' := [some (.ref x0), none, none, none, some (.int x4), some (.int v21), none, none]) (st' := [.int 6, .int v21, .ref x0, .int x4, .ref q22]) (fun _ => rfl) ?_
          refine pE_jump 1 (pc' := 63) (ls' := [some (.ref x0), none, none, none, some (.int x4), some (.int v21), none, none]) (st' := [.int (v21 / 6), .ref x0, .int x4, .ref q22]) (fun _ => rfl) ?_
          refine pE_jump 2 (pc' := 67) (ls' := [some (.ref x0), none, none, none, some (.int x4), some (.int v21), none, none]) (st' := [.int 6, .int v21, .int (v21 / 6), .ref x0, .int x4, .ref q22]) (fun _ => rfl) ?_
          refine pE_jump 1 (pc' := 68) (ls' := [some (.ref x0), none, none, none, some (.int x4), some (.int v21), none, none]) (st' := [.int (v21 - v21 / 6 * 6), .int (v21 / 6), .ref x0, .int x4, .ref q22]) (fun _ => rfl) ?_
          obtain ⟨⟨v27, S26⟩, hv27, h⟩ := obind h
          try dsimp only at h
          refine pE_iv (Bs := [.int (v21 / 6), .int (v21 - v21 / 6 * 6)]) (st := [.int x4, .ref q22]) 1 rfl (Or.inl ⟨rfl, rfl⟩) rfl rfl (Nat.le_of_ble_eq_true rfl) (Nat.le_of_ble_eq_true rfl) (g_M_feeds hv27) (f_M_feeds sp d N S20 x0 (v21 / 6) (v21 - v21 / 6 * 6) _ hv27) ?_
          refine pE_weak [some (.ref x0), none, none, none, some (.int x4), none, none, none] ⟨rfl, ⟨rfl, trivial⟩⟩ ?_
          exact f_M_served_71_2 sp d N rec26 x0 x4 v27 x4 q22 S26 hrec26 _ h
        · have c28 := Decidable.not_not.mp c28
          rw [if_pos c28] at h
          refine pE_jump 2 (pc' := 71) (ls' := [some (.ref x0), none, none, none, some (.int x4), some (.int v21), none, none]) (st' := [.long 0, .int x4, .ref q22]) (fun _ => rfl) ?_
          refine pE_weak [some (.ref x0), none, none, none, some (.int x4), none, none, none] ⟨rfl, ⟨rfl, trivial⟩⟩ ?_
          exact f_M_served_71_2 sp d N rec26 x0 x4 0 x4 q22 S20 hrec26 _ h
def F_M_served (N : Nat) (S : pm_S) (a : Nat) (p0 : Int32) (p1 : Int32) (p2 : Int32) : Option (Int32 × pm_S) :=
    if rcv S a 11 = true then
    ((wF S a 11 0 .int (.int 0)).bind fun S1 =>
    (F_M_isWorld N S1 a p0 p1).bind fun (v3, S2) =>
    if v3 = 0 then
    some ((-1), S2)
    else
    ((F_M_lay N S2 a p0 p1 p2).bind fun S4 =>
    F_M_served_26 N a N 0 S4))
    else none
theorem g_M_served {N : Nat} {S : pm_S} {a : Nat} {p0 : Int32} {p1 : Int32} {p2 : Int32} {r : (Int32 × pm_S)} (h : F_M_served N S a p0 p1 p2 = some r) : rcv S a 11 = true := by
  unfold F_M_served at h
  by_cases c : rcv S a 11 = true
  · exact c
  · rw [if_neg c] at h; cases h
set_option maxHeartbeats 4000000 in
set_option maxRecDepth 20000 in
theorem f_M_served (sp : pm_I → List Value → pm_S → pm_O → Prop) (d N : Nat) (S : pm_S) (a : Nat) (p0 : Int32) (p1 : Int32) (p2 : Int32) (r : (Int32 × pm_S)) (h : F_M_served N S a p0 p1 p2 = some r) : pm_rel pG sp (d + 6) mi_M_served [.ref a, .int p0, .int p1, .int p2] S (some (.int r.1), r.2) := by
  have hg := g_M_served h
  unfold F_M_served at h
  rw [if_pos hg] at h
  refine pE_rel (d := d + 5) ?_
  show pmE pG _ mi_M_served 0 [some (.ref a), some (.int p0), some (.int p1), some (.int p2), none, none, none, none] [] S _
  refine pE_jump 2 (pc' := 2) (ls' := [some (.ref a), some (.int p0), some (.int p1), some (.int p2), none, none, none, none]) (st' := [.int 0, .ref a]) (fun _ => rfl) ?_
  obtain ⟨S1, hS1, h⟩ := obind h
  refine pE_pf rfl rfl rfl hS1 ?_
  refine pE_jump 3 (pc' := 8) (ls' := [some (.ref a), some (.int p0), some (.int p1), some (.int p2), none, none, none, none]) (st' := [.int p1, .int p0, .ref a]) (fun _ => rfl) ?_
  obtain ⟨⟨v3, S2⟩, hv3, h⟩ := obind h
  try dsimp only at h
  refine pE_iv (Bs := [.int p0, .int p1]) (st := []) 1 rfl (Or.inl ⟨rfl, rfl⟩) rfl rfl (Nat.le_of_ble_eq_true rfl) (Nat.le_of_ble_eq_true rfl) (g_M_isWorld hv3) (f_M_isWorld sp (d + 3) N S1 a p0 p1 _ hv3) ?_
  refine pE_br (¬ v3 = 0) rfl rfl (fun c30 => ?_) (fun c30 => ?_)
  · rw [if_neg c30] at h
    refine pE_jump 4 (pc' := 20) (ls' := [some (.ref a), some (.int p0), some (.int p1), some (.int p2), none, none, none, none]) (st' := [.int p2, .int p1, .int p0, .ref a]) (fun _ => rfl) ?_
    obtain ⟨S4, hS4, h⟩ := obind h
    refine pE_iv (Bs := [.int p0, .int p1, .int p2]) (st := []) 1 rfl (Or.inl ⟨rfl, rfl⟩) rfl rfl (Nat.le_of_ble_eq_true rfl) (Nat.le_of_ble_eq_true rfl) (g_M_lay hS4) (f_M_lay sp (d + 2) N S2 a p0 p1 p2 _ hS4) ?_
    refine pE_jump 2 (pc' := 26) (ls' := [some (.ref a), some (.int p0), some (.int p1), some (.int p2), some (.int 0), none, none, none]) (st' := []) (fun _ => rfl) ?_
    refine pE_weak [some (.ref a), none, none, none, some (.int 0), none, none, none] ⟨rfl, ⟨rfl, trivial⟩⟩ ?_
    exact f_M_served_26 sp d N a N 0 S4 _ h
  · have c30 := Decidable.not_not.mp c30
    rw [if_pos c30] at h
    refine pE_jump 1 (pc' := 15) (ls' := [some (.ref a), some (.int p0), some (.int p1), some (.int p2), none, none, none, none]) (st' := [.int (-1)]) (fun _ => rfl) ?_
    cases h
    exact pE_ret rfl rfl rfl
def F_M_neighbours_22 (N : Nat)   (S : pm_S) : Option (Int32 × pm_S) :=
    some ((-1), S)
set_option maxHeartbeats 4000000 in
set_option maxRecDepth 20000 in
theorem f_M_neighbours_22 (sp : pm_I → List Value → pm_S → pm_O → Prop) (d N : Nat)   (S : pm_S)  (r : (Int32 × pm_S)) (h : F_M_neighbours_22 N   S = some r) : pmE pG (pm_rel pG sp (d + 4)) mi_M_neighbours 22 [none, none, none, none, none, none, none, none, none] [] S (some (.int r.1), r.2) := by
  unfold F_M_neighbours_22 at h
  refine pE_jump 1 (pc' := 23) (ls' := [none, none, none, none, none, none, none, none, none]) (st' := [.int (-1)]) (fun _ => rfl) ?_
  cases h
  exact pE_ret rfl rfl rfl
def F_M_neighbours_140 (N : Nat)  (x6 : Int32) (S : pm_S) : Option (Int32 × pm_S) :=
    some (x6, S)
set_option maxHeartbeats 4000000 in
set_option maxRecDepth 20000 in
theorem f_M_neighbours_140 (sp : pm_I → List Value → pm_S → pm_O → Prop) (d N : Nat)  (x6 : Int32) (S : pm_S)  (r : (Int32 × pm_S)) (h : F_M_neighbours_140 N  x6 S = some r) : pmE pG (pm_rel pG sp (d + 4)) mi_M_neighbours 140 [none, none, none, none, none, none, some (.int x6), none, none] [] S (some (.int r.1), r.2) := by
  unfold F_M_neighbours_140 at h
  refine pE_jump 1 (pc' := 142) (ls' := [none, none, none, none, none, none, some (.int x6), none, none]) (st' := [.int x6]) (fun _ => rfl) ?_
  cases h
  exact pE_ret rfl rfl rfl
def F_M_neighbours_131 (N : Nat) (rec71 : Int32 → Int32 → pm_S → Option (Int32 × pm_S)) (x0 : Nat) (x4 : Int32) (x7 : Int32) (t0 : Int32) (t1 : Int32) (S : pm_S) : Option (Int32 × pm_S) :=
    rec71 (t1 ||| t0) (x7 + 1) S
set_option maxHeartbeats 4000000 in
set_option maxRecDepth 20000 in
theorem f_M_neighbours_131 (sp : pm_I → List Value → pm_S → pm_O → Prop) (d N : Nat) (rec71 : Int32 → Int32 → pm_S → Option (Int32 × pm_S)) (x0 : Nat) (x4 : Int32) (x7 : Int32) (t0 : Int32) (t1 : Int32) (S : pm_S) (hrec71 : ∀ (y1 : Int32) (y2 : Int32) (U : pm_S) (r : (Int32 × pm_S)), rec71 y1 y2 U = some r → pmE pG (pm_rel pG sp (d + 4)) mi_M_neighbours 71 [some (.ref x0), none, none, none, some (.int x4), none, some (.int y1), some (.int y2), none] [] U (some (.int r.1), r.2)) (r : (Int32 × pm_S)) (h : F_M_neighbours_131 N rec71 x0 x4 x7 t0 t1 S = some r) : pmE pG (pm_rel pG sp (d + 4)) mi_M_neighbours 131 [some (.ref x0), none, none, none, some (.int x4), none, none, some (.int x7), none] [.int t0, .int t1] S (some (.int r.1), r.2) := by
  unfold F_M_neighbours_131 at h
  refine pE_jump 4 (pc' := 71) (ls' := [some (.ref x0), none, none, none, some (.int x4), none, some (.int (t1 ||| t0)), some (.int (x7 + 1)), none]) (st' := []) (fun _ => rfl) ?_
  exact hrec71 (t1 ||| t0) (x7 + 1) S _ h
def F_M_neighbours_130 (N : Nat) (rec71 : Int32 → Int32 → pm_S → Option (Int32 × pm_S)) (x0 : Nat) (x4 : Int32) (x7 : Int32) (t0 : Int32) (S : pm_S) : Option (Int32 × pm_S) :=
    F_M_neighbours_131 N rec71 x0 x4 x7 0 t0 S
set_option maxHeartbeats 4000000 in
set_option maxRecDepth 20000 in
theorem f_M_neighbours_130 (sp : pm_I → List Value → pm_S → pm_O → Prop) (d N : Nat) (rec71 : Int32 → Int32 → pm_S → Option (Int32 × pm_S)) (x0 : Nat) (x4 : Int32) (x7 : Int32) (t0 : Int32) (S : pm_S) (hrec71 : ∀ (y1 : Int32) (y2 : Int32) (U : pm_S) (r : (Int32 × pm_S)), rec71 y1 y2 U = some r → pmE pG (pm_rel pG sp (d + 4)) mi_M_neighbours 71 [some (.ref x0), none, none, none, some (.int x4), none, some (.int y1), some (.int y2), none] [] U (some (.int r.1), r.2)) (r : (Int32 × pm_S)) (h : F_M_neighbours_130 N rec71 x0 x4 x7 t0 S = some r) : pmE pG (pm_rel pG sp (d + 4)) mi_M_neighbours 130 [some (.ref x0), none, none, none, some (.int x4), none, none, some (.int x7), none] [.int t0] S (some (.int r.1), r.2) := by
  unfold F_M_neighbours_130 at h
  refine pE_jump 1 (pc' := 131) (ls' := [some (.ref x0), none, none, none, some (.int x4), none, none, some (.int x7), none]) (st' := [.int 0, .int t0]) (fun _ => rfl) ?_
  exact f_M_neighbours_131 sp d N rec71 x0 x4 x7 0 t0 S hrec71 _ h
def B_M_neighbours_71 (N : Nat)  (rec71 : Int32 → Int32 → pm_S → Option (Int32 × pm_S)) (x0 : Nat) (x4 : Int32) (x6 : Int32) (x7 : Int32) (S : pm_S) : Option (Int32 × pm_S) :=
    if 10 ≤ x7 then
    F_M_neighbours_140 N x6 S
    else
    ((F_M_hangsAt N S x0 x7).bind fun (v13, S12) =>
    if x7 = x4 then
    F_M_neighbours_130 N rec71 x0 x4 x7 x6 S12
    else
    (if v13 = (-1) then
    F_M_neighbours_130 N rec71 x0 x4 x7 x6 S12
    else
    ((oR S12 x0 11 35).bind fun oq14 => match oq14 with
    | none => none
    | some q14 =>
    (F_M_farNode N S12 x0 (v13 / 6) (v13 - v13 / 6 * 6)).bind fun (v18, S17) =>
    (aI [2, 3] S17 q14 v18).bind fun v19 =>
    if v19 = 0 then
    F_M_neighbours_130 N rec71 x0 x4 x7 x6 S17
    else
    F_M_neighbours_131 N rec71 x0 x4 x7 (1 <<< (x7 &&& 31)) x6 S17)))
def F_M_neighbours_71 (N : Nat)  (x0 : Nat) (x4 : Int32) : Nat → Int32 → Int32 → pm_S → Option (Int32 × pm_S)
  | 0 => fun _ _ _ => none
  | n + 1 => fun x6 x7 S => B_M_neighbours_71 N  (F_M_neighbours_71 N  x0 x4 n) x0 x4 x6 x7 S
set_option maxHeartbeats 4000000 in
set_option maxRecDepth 20000 in
theorem f_M_neighbours_71 (sp : pm_I → List Value → pm_S → pm_O → Prop) (d N : Nat)  (x0 : Nat) (x4 : Int32)  : ∀ (n : Nat) (x6 : Int32) (x7 : Int32) (S : pm_S) (r : (Int32 × pm_S)), F_M_neighbours_71 N  x0 x4 n x6 x7 S = some r → pmE pG (pm_rel pG sp (d + 4)) mi_M_neighbours 71 [some (.ref x0), none, none, none, some (.int x4), none, some (.int x6), some (.int x7), none] [] S (some (.int r.1), r.2) := by
  intro n
  induction n with
  | zero =>
    intro x6 x7 S r h
    cases h
  | succ n ih =>
    intro x6 x7 S r h
    replace h : B_M_neighbours_71 N  (F_M_neighbours_71 N  x0 x4 n) x0 x4 x6 x7 S = some r := h
    have hrec71 := ih
    generalize F_M_neighbours_71 N  x0 x4 n = rec71 at h hrec71
    unfold B_M_neighbours_71 at h
    refine pE_jump 2 (pc' := 75) (ls' := [some (.ref x0), none, none, none, some (.int x4), none, some (.int x6), some (.int x7), none]) (st' := [.int 10, .int x7]) (fun _ => rfl) ?_
    refine pE_br (10 ≤ x7) rfl rfl (fun c23 => ?_) (fun c23 => ?_)
    · rw [if_pos c23] at h
      refine pE_weak [none, none, none, none, none, none, some (.int x6), none, none] ⟨rfl, trivial⟩ ?_
      exact f_M_neighbours_140 sp d N x6 S _ h
    · rw [if_neg c23] at h
      refine pE_jump 2 (pc' := 81) (ls' := [some (.ref x0), none, none, none, some (.int x4), none, some (.int x6), some (.int x7), none]) (st' := [.int x7, .ref x0]) (fun _ => rfl) ?_
      obtain ⟨⟨v13, S12⟩, hv13, h⟩ := obind h
      try dsimp only at h
      refine pE_iv (Bs := [.int x7]) (st := []) 1 rfl (Or.inl ⟨rfl, rfl⟩) rfl rfl (Nat.le_of_ble_eq_true rfl) (Nat.le_of_ble_eq_true rfl) (g_M_hangsAt hv13) (f_M_hangsAt sp (d + 3) N S x0 x7 _ hv13) ?_
      refine pE_jump 4 (pc' := 92) (ls' := [some (.ref x0), none, none, none, some (.int x4), none, some (.int x6), some (.int x7), some (.int v13)]) (st' := [.int x4, .int x7, .int x6]) (fun _ => rfl) ?_
      refine pE_br (x7 = x4) rfl rfl (fun c22 => ?_) (fun c22 => ?_)
      · rw [if_pos c22] at h
        refine pE_weak [some (.ref x0), none, none, none, some (.int x4), none, none, some (.int x7), none] ⟨rfl, ⟨rfl, ⟨rfl, trivial⟩⟩⟩ ?_
        exact f_M_neighbours_130 sp d N rec71 x0 x4 x7 x6 S12 hrec71 _ h
      · rw [if_neg c22] at h
        refine pE_jump 2 (pc' := 98) (ls' := [some (.ref x0), none, none, none, some (.int x4), none, some (.int x6), some (.int x7), some (.int v13)]) (st' := [.int (-1), .int v13, .int x6]) (fun _ => rfl) ?_
        refine pE_br (v13 = (-1)) rfl rfl (fun c21 => ?_) (fun c21 => ?_)
        · rw [if_pos c21] at h
          refine pE_weak [some (.ref x0), none, none, none, some (.int x4), none, none, some (.int x7), none] ⟨rfl, ⟨rfl, ⟨rfl, trivial⟩⟩⟩ ?_
          exact f_M_neighbours_130 sp d N rec71 x0 x4 x7 x6 S12 hrec71 _ h
        · rw [if_neg c21] at h
          refine pE_jump 1 (pc' := 102) (ls' := [some (.ref x0), none, none, none, some (.int x4), none, some (.int x6), some (.int x7), some (.int v13)]) (st' := [.ref x0, .int x6]) (fun _ => rfl) ?_
          obtain ⟨oq14, hq14, h⟩ := obind h
          cases oq14 with
          | none => cases h
          | some q14 =>
            try dsimp only at h
            refine pE_gfS rfl rfl hq14 ?_
            refine pE_jump 3 (pc' := 110) (ls' := [some (.ref x0), none, none, none, some (.int x4), none, some (.int x6), some (.int x7), some (.int v13)]) (st' := [.int 6, .int v13, .ref x0, .ref q14, .int x6]) (fun _ => rfl) ?_
            refine pE_jump 1 (pc' := 111) (ls' := [some (.ref x0), none, none, none, some (.int x4), none, some (.int x6), some (.int x7), some (.int v13)]) (st' := [.int (v13 / 6), .ref x0, .ref q14, .int x6]) (fun _ => rfl) ?_
            refine pE_jump 2 (pc' := 115) (ls' := [some (.ref x0), none, none, none, some (.int x4), none, some (.int x6), some (.int x7), some (.int v13)]) (st' := [.int 6, .int v13, .int (v13 / 6), .ref x0, .ref q14, .int x6]) (fun _ => rfl) ?_
            refine pE_jump 1 (pc' := 116) (ls' := [some (.ref x0), none, none, none, some (.int x4), none, some (.int x6), some (.int x7), some (.int v13)]) (st' := [.int (v13 - v13 / 6 * 6), .int (v13 / 6), .ref x0, .ref q14, .int x6]) (fun _ => rfl) ?_
            obtain ⟨⟨v18, S17⟩, hv18, h⟩ := obind h
            try dsimp only at h
            refine pE_iv (Bs := [.int (v13 / 6), .int (v13 - v13 / 6 * 6)]) (st := [.ref q14, .int x6]) 1 rfl (Or.inl ⟨rfl, rfl⟩) rfl rfl (Nat.le_of_ble_eq_true rfl) (Nat.le_of_ble_eq_true rfl) (g_M_farNode hv18) (f_M_farNode sp (d + 1) N S12 x0 (v13 / 6) (v13 - v13 / 6 * 6) _ hv18) ?_
            obtain ⟨v19, hv19, h⟩ := obind h
            refine pE_aI rfl rfl hv19 ?_
            refine pE_br (v19 = 0) rfl rfl (fun c20 => ?_) (fun c20 => ?_)
            · rw [if_pos c20] at h
              refine pE_weak [some (.ref x0), none, none, none, some (.int x4), none, none, some (.int x7), none] ⟨rfl, ⟨rfl, ⟨rfl, trivial⟩⟩⟩ ?_
              exact f_M_neighbours_130 sp d N rec71 x0 x4 x7 x6 S17 hrec71 _ h
            · rw [if_neg c20] at h
              refine pE_jump 4 (pc' := 131) (ls' := [some (.ref x0), none, none, none, some (.int x4), none, some (.int x6), some (.int x7), some (.int v13)]) (st' := [.int (1 <<< (x7 &&& 31)), .int x6]) (fun _ => rfl) ?_
              refine pE_weak [some (.ref x0), none, none, none, some (.int x4), none, none, some (.int x7), none] ⟨rfl, ⟨rfl, ⟨rfl, trivial⟩⟩⟩ ?_
              exact f_M_neighbours_131 sp d N rec71 x0 x4 x7 (1 <<< (x7 &&& 31)) x6 S17 hrec71 _ h
def F_M_neighbours (N : Nat) (S : pm_S) (a : Nat) (p0 : Int32) (p1 : Int32) (p2 : Int32) (p3 : Int32) : Option (Int32 × pm_S) :=
    if rcv S a 11 = true then
    ((wF S a 11 0 .int (.int 0)).bind fun S1 =>
    (F_M_isWorld N S1 a p0 p1).bind fun (v3, S2) =>
    if v3 = 0 then
    F_M_neighbours_22 N S2
    else
    ((F_M_isNumberOfHouse N S2 p3).bind fun (v5, S4) =>
    if v5 = 0 then
    F_M_neighbours_22 N S4
    else
    ((F_M_lay N S4 a p0 p1 p2).bind fun S6 =>
    (F_M_hangsAt N S6 a p3).bind fun (v8, S7) =>
    if v8 = (-1) then
    some ((-1), S7)
    else
    ((F_M_farNode N S7 a (v8 / 6) (v8 - v8 / 6 * 6)).bind fun (v10, S9) =>
    (F_M_sound N S9 a v10).bind fun S11 =>
    F_M_neighbours_71 N a p3 N 0 0 S11))))
    else none
theorem g_M_neighbours {N : Nat} {S : pm_S} {a : Nat} {p0 : Int32} {p1 : Int32} {p2 : Int32} {p3 : Int32} {r : (Int32 × pm_S)} (h : F_M_neighbours N S a p0 p1 p2 p3 = some r) : rcv S a 11 = true := by
  unfold F_M_neighbours at h
  by_cases c : rcv S a 11 = true
  · exact c
  · rw [if_neg c] at h; cases h
set_option maxHeartbeats 4000000 in
set_option maxRecDepth 20000 in
theorem f_M_neighbours (sp : pm_I → List Value → pm_S → pm_O → Prop) (d N : Nat) (S : pm_S) (a : Nat) (p0 : Int32) (p1 : Int32) (p2 : Int32) (p3 : Int32) (r : (Int32 × pm_S)) (h : F_M_neighbours N S a p0 p1 p2 p3 = some r) : pm_rel pG sp (d + 5) mi_M_neighbours [.ref a, .int p0, .int p1, .int p2, .int p3] S (some (.int r.1), r.2) := by
  have hg := g_M_neighbours h
  unfold F_M_neighbours at h
  rw [if_pos hg] at h
  refine pE_rel (d := d + 4) ?_
  show pmE pG _ mi_M_neighbours 0 [some (.ref a), some (.int p0), some (.int p1), some (.int p2), some (.int p3), none, none, none, none] [] S _
  refine pE_jump 2 (pc' := 2) (ls' := [some (.ref a), some (.int p0), some (.int p1), some (.int p2), some (.int p3), none, none, none, none]) (st' := [.int 0, .ref a]) (fun _ => rfl) ?_
  obtain ⟨S1, hS1, h⟩ := obind h
  refine pE_pf rfl rfl rfl hS1 ?_
  refine pE_jump 3 (pc' := 8) (ls' := [some (.ref a), some (.int p0), some (.int p1), some (.int p2), some (.int p3), none, none, none, none]) (st' := [.int p1, .int p0, .ref a]) (fun _ => rfl) ?_
  obtain ⟨⟨v3, S2⟩, hv3, h⟩ := obind h
  try dsimp only at h
  refine pE_iv (Bs := [.int p0, .int p1]) (st := []) 1 rfl (Or.inl ⟨rfl, rfl⟩) rfl rfl (Nat.le_of_ble_eq_true rfl) (Nat.le_of_ble_eq_true rfl) (g_M_isWorld hv3) (f_M_isWorld sp (d + 2) N S1 a p0 p1 _ hv3) ?_
  refine pE_br (v3 = 0) rfl rfl (fun c26 => ?_) (fun c26 => ?_)
  · rw [if_pos c26] at h
    refine pE_weak [none, none, none, none, none, none, none, none, none] trivial ?_
    exact f_M_neighbours_22 sp d N S2 _ h
  · rw [if_neg c26] at h
    refine pE_jump 1 (pc' := 16) (ls' := [some (.ref a), some (.int p0), some (.int p1), some (.int p2), some (.int p3), none, none, none, none]) (st' := [.int p3]) (fun _ => rfl) ?_
    obtain ⟨⟨v5, S4⟩, hv5, h⟩ := obind h
    try dsimp only at h
    refine pE_is (Bs := [.int p3]) (st := []) rfl rfl rfl (Nat.le_of_ble_eq_true rfl) (Nat.le_of_ble_eq_true rfl) (f_M_isNumberOfHouse sp (d + 2) N S2 p3 _ hv5) ?_
    refine pE_br (¬ v5 = 0) rfl rfl (fun c25 => ?_) (fun c25 => ?_)
    · rw [if_neg c25] at h
      refine pE_jump 4 (pc' := 28) (ls' := [some (.ref a), some (.int p0), some (.int p1), some (.int p2), some (.int p3), none, none, none, none]) (st' := [.int p2, .int p1, .int p0, .ref a]) (fun _ => rfl) ?_
      obtain ⟨S6, hS6, h⟩ := obind h
      refine pE_iv (Bs := [.int p0, .int p1, .int p2]) (st := []) 1 rfl (Or.inl ⟨rfl, rfl⟩) rfl rfl (Nat.le_of_ble_eq_true rfl) (Nat.le_of_ble_eq_true rfl) (g_M_lay hS6) (f_M_lay sp (d + 1) N S4 a p0 p1 p2 _ hS6) ?_
      refine pE_jump 2 (pc' := 34) (ls' := [some (.ref a), some (.int p0), some (.int p1), some (.int p2), some (.int p3), none, none, none, none]) (st' := [.int p3, .ref a]) (fun _ => rfl) ?_
      obtain ⟨⟨v8, S7⟩, hv8, h⟩ := obind h
      try dsimp only at h
      refine pE_iv (Bs := [.int p3]) (st := []) 1 rfl (Or.inl ⟨rfl, rfl⟩) rfl rfl (Nat.le_of_ble_eq_true rfl) (Nat.le_of_ble_eq_true rfl) (g_M_hangsAt hv8) (f_M_hangsAt sp (d + 3) N S6 a p3 _ hv8) ?_
      refine pE_jump 3 (pc' := 42) (ls' := [some (.ref a), some (.int p0), some (.int p1), some (.int p2), some (.int p3), some (.int v8), none, none, none]) (st' := [.int (-1), .int v8]) (fun _ => rfl) ?_
      refine pE_br (¬ v8 = (-1)) rfl rfl (fun c24 => ?_) (fun c24 => ?_)
      · rw [if_neg c24] at h
        refine pE_jump 4 (pc' := 53) (ls' := [some (.ref a), some (.int p0), some (.int p1), some (.int p2), some (.int p3), some (.int v8), none, none, none]) (st' := [.int 6, .int v8, .ref a, .ref a]) (fun _ => rfl) ?_
        refine pE_jump 1 (pc' := 54) (ls' := [some (.ref a), some (.int p0), some (.int p1), some (.int p2), some (.int p3), some (.int v8), none, none, none]) (st' := [.int (v8 / 6), .ref a, .ref a]) (fun _ => rfl) ?_
        refine pE_jump 2 (pc' := 58) (ls' := [some (.ref a), some (.int p0), some (.int p1), some (.int p2), some (.int p3), some (.int v8), none, none, none]) (st' := [.int 6, .int v8, .int (v8 / 6), .ref a, .ref a]) (fun _ => rfl) ?_
        refine pE_jump 1 (pc' := 59) (ls' := [some (.ref a), some (.int p0), some (.int p1), some (.int p2), some (.int p3), some (.int v8), none, none, none]) (st' := [.int (v8 - v8 / 6 * 6), .int (v8 / 6), .ref a, .ref a]) (fun _ => rfl) ?_
        obtain ⟨⟨v10, S9⟩, hv10, h⟩ := obind h
        try dsimp only at h
        refine pE_iv (Bs := [.int (v8 / 6), .int (v8 - v8 / 6 * 6)]) (st := [.ref a]) 1 rfl (Or.inl ⟨rfl, rfl⟩) rfl rfl (Nat.le_of_ble_eq_true rfl) (Nat.le_of_ble_eq_true rfl) (g_M_farNode hv10) (f_M_farNode sp (d + 1) N S7 a (v8 / 6) (v8 - v8 / 6 * 6) _ hv10) ?_
        obtain ⟨S11, hS11, h⟩ := obind h
        refine pE_iv (Bs := [.int v10]) (st := []) 1 rfl (Or.inl ⟨rfl, rfl⟩) rfl rfl (Nat.le_of_ble_eq_true rfl) (Nat.le_of_ble_eq_true rfl) (g_M_sound hS11) (f_M_sound sp d N S9 a v10 _ hS11) ?_
        refine pE_jump 4 (pc' := 71) (ls' := [some (.ref a), some (.int p0), some (.int p1), some (.int p2), some (.int p3), some (.int v8), some (.int 0), some (.int 0), none]) (st' := []) (fun _ => rfl) ?_
        refine pE_weak [some (.ref a), none, none, none, some (.int p3), none, some (.int 0), some (.int 0), none] ⟨rfl, ⟨rfl, ⟨rfl, ⟨rfl, trivial⟩⟩⟩⟩ ?_
        exact f_M_neighbours_71 sp d N a p3 N 0 0 S11 _ h
      · have c24 := Decidable.not_not.mp c24
        rw [if_pos c24] at h
        refine pE_jump 1 (pc' := 46) (ls' := [some (.ref a), some (.int p0), some (.int p1), some (.int p2), some (.int p3), some (.int v8), none, none, none]) (st' := [.int (-1)]) (fun _ => rfl) ?_
        cases h
        exact pE_ret rfl rfl rfl
    · have c25 := Decidable.not_not.mp c25
      rw [if_pos c25] at h
      refine pE_weak [none, none, none, none, none, none, none, none, none] trivial ?_
      exact f_M_neighbours_22 sp d N S4 _ h
