def F_M_node (N : Nat) (S : pm_S) (p0 : Int32) (p1 : Int32) (p2 : Int32) : Option (Int32 × pm_S) :=
    some ((((6 * p0) + p1) * 11) + p2, S)
set_option maxHeartbeats 4000000 in
set_option maxRecDepth 20000 in
theorem f_M_node (sp : pm_I → List Value → pm_S → pm_O → Prop) (d N : Nat) (S : pm_S) (p0 : Int32) (p1 : Int32) (p2 : Int32) (r : (Int32 × pm_S)) (h : F_M_node N S p0 p1 p2 = some r) : pm_rel pG sp (d + 1) mi_M_node [.int p0, .int p1, .int p2] S (some (.int r.1), r.2) := by
  unfold F_M_node at h
  refine pE_rel (d := d + 0) ?_
  show pmE pG _ mi_M_node 0 [some (.int p0), some (.int p1), some (.int p2)] [] S _
  refine pE_jump 9 (pc' := 11) (ls' := [some (.int p0), some (.int p1), some (.int p2)]) (st' := [.int ((((6 * p0) + p1) * 11) + p2)]) (fun _ => rfl) ?_
  cases h
  exact pE_ret rfl rfl rfl
def F_M_nearNode (N : Nat) (S : pm_S) (a : Nat) (p0 : Int32) (p1 : Int32) : Option (Int32 × pm_S) :=
    if rcv S a 11 = true then
    ((F_M_node N S p0 p1 0).bind fun (v2, S1) =>
    some (v2, S1))
    else none
theorem g_M_nearNode {N : Nat} {S : pm_S} {a : Nat} {p0 : Int32} {p1 : Int32} {r : (Int32 × pm_S)} (h : F_M_nearNode N S a p0 p1 = some r) : rcv S a 11 = true := by
  unfold F_M_nearNode at h
  by_cases c : rcv S a 11 = true
  · exact c
  · rw [if_neg c] at h; cases h
set_option maxHeartbeats 4000000 in
set_option maxRecDepth 20000 in
theorem f_M_nearNode (sp : pm_I → List Value → pm_S → pm_O → Prop) (d N : Nat) (S : pm_S) (a : Nat) (p0 : Int32) (p1 : Int32) (r : (Int32 × pm_S)) (h : F_M_nearNode N S a p0 p1 = some r) : pm_rel pG sp (d + 2) mi_M_nearNode [.ref a, .int p0, .int p1] S (some (.int r.1), r.2) := by
  have hg := g_M_nearNode h
  unfold F_M_nearNode at h
  rw [if_pos hg] at h
  refine pE_rel (d := d + 1) ?_
  show pmE pG _ mi_M_nearNode 0 [some (.ref a), some (.int p0), some (.int p1)] [] S _
  refine pE_jump 3 (pc' := 3) (ls' := [some (.ref a), some (.int p0), some (.int p1)]) (st' := [.int 0, .int p1, .int p0]) (fun _ => rfl) ?_
  obtain ⟨⟨v2, S1⟩, hv2, h⟩ := obind h
  try dsimp only at h
  refine pE_is (Bs := [.int p0, .int p1, .int 0]) (st := []) rfl rfl rfl (Nat.le_of_ble_eq_true rfl) (Nat.le_of_ble_eq_true rfl) (f_M_node sp d N S p0 p1 0 _ hv2) ?_
  cases h
  exact pE_ret rfl rfl rfl
def F_M_cameAs_43 (N : Nat)   (S : pm_S) : Option (Int32 × pm_S) :=
    some ((-1), S)
set_option maxHeartbeats 4000000 in
set_option maxRecDepth 20000 in
theorem f_M_cameAs_43 (sp : pm_I → List Value → pm_S → pm_O → Prop) (d N : Nat)   (S : pm_S)  (r : (Int32 × pm_S)) (h : F_M_cameAs_43 N   S = some r) : pmE pG (pm_rel pG sp (d + 0)) mi_M_cameAs 43 [none, none, none, none] [] S (some (.int r.1), r.2) := by
  unfold F_M_cameAs_43 at h
  refine pE_jump 1 (pc' := 44) (ls' := [none, none, none, none]) (st' := [.int (-1)]) (fun _ => rfl) ?_
  cases h
  exact pE_ret rfl rfl rfl
def F_M_cameAs_35 (N : Nat)  (x3 : Int32) (S : pm_S) : Option (Int32 × pm_S) :=
    some (x3, S)
set_option maxHeartbeats 4000000 in
set_option maxRecDepth 20000 in
theorem f_M_cameAs_35 (sp : pm_I → List Value → pm_S → pm_O → Prop) (d N : Nat)  (x3 : Int32) (S : pm_S)  (r : (Int32 × pm_S)) (h : F_M_cameAs_35 N  x3 S = some r) : pmE pG (pm_rel pG sp (d + 0)) mi_M_cameAs 35 [none, none, none, some (.int x3)] [] S (some (.int r.1), r.2) := by
  unfold F_M_cameAs_35 at h
  refine pE_jump 1 (pc' := 36) (ls' := [none, none, none, some (.int x3)]) (st' := [.int x3]) (fun _ => rfl) ?_
  cases h
  exact pE_ret rfl rfl rfl
def B_M_cameAs_2 (N : Nat)  (rec2 : Int32 → pm_S → Option (Int32 × pm_S)) (x0 : Nat) (x1 : Int32) (x2 : Int32) (x3 : Int32) (S : pm_S) : Option (Int32 × pm_S) :=
    (oR S x0 11 10).bind fun oq1 => match oq1 with
    | none => none
    | some q1 =>
    (oI S x0 11 29).bind fun v3 =>
    (aI [0, 6] S q1 ((7 * v3) + x1)).bind fun v4 =>
    if v4 ≤ x3 then
    F_M_cameAs_43 N S
    else
    ((oR S x0 11 28).bind fun oq5 => match oq5 with
    | none => none
    | some q5 =>
    (aI [0, 6] S q5 ((6 * x1) + x3)).bind fun v6 =>
    if v6 = x2 then
    F_M_cameAs_35 N x3 S
    else
    rec2 (x3 + 1) S)
def F_M_cameAs_2 (N : Nat)  (x0 : Nat) (x1 : Int32) (x2 : Int32) : Nat → Int32 → pm_S → Option (Int32 × pm_S)
  | 0 => fun _ _ => none
  | n + 1 => fun x3 S => B_M_cameAs_2 N  (F_M_cameAs_2 N  x0 x1 x2 n) x0 x1 x2 x3 S
set_option maxHeartbeats 4000000 in
set_option maxRecDepth 20000 in
theorem f_M_cameAs_2 (sp : pm_I → List Value → pm_S → pm_O → Prop) (d N : Nat)  (x0 : Nat) (x1 : Int32) (x2 : Int32)  : ∀ (n : Nat) (x3 : Int32) (S : pm_S) (r : (Int32 × pm_S)), F_M_cameAs_2 N  x0 x1 x2 n x3 S = some r → pmE pG (pm_rel pG sp (d + 0)) mi_M_cameAs 2 [some (.ref x0), some (.int x1), some (.int x2), some (.int x3)] [] S (some (.int r.1), r.2) := by
  intro n
  induction n with
  | zero =>
    intro x3 S r h
    cases h
  | succ n ih =>
    intro x3 S r h
    replace h : B_M_cameAs_2 N  (F_M_cameAs_2 N  x0 x1 x2 n) x0 x1 x2 x3 S = some r := h
    have hrec2 := ih
    generalize F_M_cameAs_2 N  x0 x1 x2 n = rec2 at h hrec2
    unfold B_M_cameAs_2 at h
    refine pE_jump 2 (pc' := 4) (ls' := [some (.ref x0), some (.int x1), some (.int x2), some (.int x3)]) (st' := [.ref x0, .int x3]) (fun _ => rfl) ?_
    obtain ⟨oq1, hq1, h⟩ := obind h
    cases oq1 with
    | none => cases h
    | some q1 =>
      try dsimp only at h
      refine pE_gfS rfl rfl hq1 ?_
      refine pE_jump 2 (pc' := 10) (ls' := [some (.ref x0), some (.int x1), some (.int x2), some (.int x3)]) (st' := [.ref x0, .int 7, .ref q1, .int x3]) (fun _ => rfl) ?_
      obtain ⟨v3, hv3, h⟩ := obind h
      refine pE_gfI rfl rfl hv3 ?_
      refine pE_jump 3 (pc' := 16) (ls' := [some (.ref x0), some (.int x1), some (.int x2), some (.int x3)]) (st' := [.int ((7 * v3) + x1), .ref q1, .int x3]) (fun _ => rfl) ?_
      obtain ⟨v4, hv4, h⟩ := obind h
      refine pE_aI rfl rfl hv4 ?_
      refine pE_br (v4 ≤ x3) rfl rfl (fun c8 => ?_) (fun c8 => ?_)
      · rw [if_pos c8] at h
        refine pE_weak [none, none, none, none] trivial ?_
        exact f_M_cameAs_43 sp d N S _ h
      · rw [if_neg c8] at h
        refine pE_jump 1 (pc' := 21) (ls' := [some (.ref x0), some (.int x1), some (.int x2), some (.int x3)]) (st' := [.ref x0]) (fun _ => rfl) ?_
        obtain ⟨oq5, hq5, h⟩ := obind h
        cases oq5 with
        | none => cases h
        | some q5 =>
          try dsimp only at h
          refine pE_gfS rfl rfl hq5 ?_
          refine pE_jump 5 (pc' := 30) (ls' := [some (.ref x0), some (.int x1), some (.int x2), some (.int x3)]) (st' := [.int ((6 * x1) + x3), .ref q5]) (fun _ => rfl) ?_
          obtain ⟨v6, hv6, h⟩ := obind h
          refine pE_aI rfl rfl hv6 ?_
          refine pE_jump 1 (pc' := 32) (ls' := [some (.ref x0), some (.int x1), some (.int x2), some (.int x3)]) (st' := [.int x2, .int v6]) (fun _ => rfl) ?_
          refine pE_br (¬ v6 = x2) rfl rfl (fun c7 => ?_) (fun c7 => ?_)
          · rw [if_neg c7] at h
            refine pE_jump 2 (pc' := 2) (ls' := [some (.ref x0), some (.int x1), some (.int x2), some (.int (x3 + 1))]) (st' := []) (fun _ => rfl) ?_
            exact hrec2 (x3 + 1) S _ h
          · have c7 := Decidable.not_not.mp c7
            rw [if_pos c7] at h
            refine pE_weak [none, none, none, some (.int x3)] ⟨rfl, trivial⟩ ?_
            exact f_M_cameAs_35 sp d N x3 S _ h
def F_M_cameAs (N : Nat) (S : pm_S) (a : Nat) (p0 : Int32) (p1 : Int32) : Option (Int32 × pm_S) :=
    if rcv S a 11 = true then
    (F_M_cameAs_2 N a p0 p1 N 0 S)
    else none
theorem g_M_cameAs {N : Nat} {S : pm_S} {a : Nat} {p0 : Int32} {p1 : Int32} {r : (Int32 × pm_S)} (h : F_M_cameAs N S a p0 p1 = some r) : rcv S a 11 = true := by
  unfold F_M_cameAs at h
  by_cases c : rcv S a 11 = true
  · exact c
  · rw [if_neg c] at h; cases h
set_option maxHeartbeats 4000000 in
set_option maxRecDepth 20000 in
theorem f_M_cameAs (sp : pm_I → List Value → pm_S → pm_O → Prop) (d N : Nat) (S : pm_S) (a : Nat) (p0 : Int32) (p1 : Int32) (r : (Int32 × pm_S)) (h : F_M_cameAs N S a p0 p1 = some r) : pm_rel pG sp (d + 1) mi_M_cameAs [.ref a, .int p0, .int p1] S (some (.int r.1), r.2) := by
  have hg := g_M_cameAs h
  unfold F_M_cameAs at h
  rw [if_pos hg] at h
  refine pE_rel (d := d + 0) ?_
  show pmE pG _ mi_M_cameAs 0 [some (.ref a), some (.int p0), some (.int p1), none] [] S _
  refine pE_jump 2 (pc' := 2) (ls' := [some (.ref a), some (.int p0), some (.int p1), some (.int 0)]) (st' := []) (fun _ => rfl) ?_
  exact f_M_cameAs_2 sp d N a p0 p1 N 0 S _ h
def F_M_longOf (N : Nat) (S : pm_S) (a : Nat) (p0 : Int32) : Option (Int32 × pm_S) :=
    if rcv S a 11 = true then
    ((oR S a 11 11).bind fun oq1 => match oq1 with
    | none => none
    | some q1 =>
    (oI S a 11 29).bind fun v3 =>
    (aI [0, 6] S q1 ((7 * v3) + p0)).bind fun v4 =>
    some (v4, S))
    else none
theorem g_M_longOf {N : Nat} {S : pm_S} {a : Nat} {p0 : Int32} {r : (Int32 × pm_S)} (h : F_M_longOf N S a p0 = some r) : rcv S a 11 = true := by
  unfold F_M_longOf at h
  by_cases c : rcv S a 11 = true
  · exact c
  · rw [if_neg c] at h; cases h
set_option maxHeartbeats 4000000 in
set_option maxRecDepth 20000 in
theorem f_M_longOf (sp : pm_I → List Value → pm_S → pm_O → Prop) (d N : Nat) (S : pm_S) (a : Nat) (p0 : Int32) (r : (Int32 × pm_S)) (h : F_M_longOf N S a p0 = some r) : pm_rel pG sp (d + 1) mi_M_longOf [.ref a, .int p0] S (some (.int r.1), r.2) := by
  have hg := g_M_longOf h
  unfold F_M_longOf at h
  rw [if_pos hg] at h
  refine pE_rel (d := d + 0) ?_
  show pmE pG _ mi_M_longOf 0 [some (.ref a), some (.int p0)] [] S _
  refine pE_jump 1 (pc' := 1) (ls' := [some (.ref a), some (.int p0)]) (st' := [.ref a]) (fun _ => rfl) ?_
  obtain ⟨oq1, hq1, h⟩ := obind h
  cases oq1 with
  | none => cases h
  | some q1 =>
    try dsimp only at h
    refine pE_gfS rfl rfl hq1 ?_
    refine pE_jump 2 (pc' := 7) (ls' := [some (.ref a), some (.int p0)]) (st' := [.ref a, .int 7, .ref q1]) (fun _ => rfl) ?_
    obtain ⟨v3, hv3, h⟩ := obind h
    refine pE_gfI rfl rfl hv3 ?_
    refine pE_jump 3 (pc' := 13) (ls' := [some (.ref a), some (.int p0)]) (st' := [.int ((7 * v3) + p0), .ref q1]) (fun _ => rfl) ?_
    obtain ⟨v4, hv4, h⟩ := obind h
    refine pE_aI rfl rfl hv4 ?_
    cases h
    exact pE_ret rfl rfl rfl
def F_M_breaksTo_129 (N : Nat)  (x4 : Int32) (S : pm_S) : Option (Int32 × pm_S) :=
    some (x4, S)
set_option maxHeartbeats 4000000 in
set_option maxRecDepth 20000 in
theorem f_M_breaksTo_129 (sp : pm_I → List Value → pm_S → pm_O → Prop) (d N : Nat)  (x4 : Int32) (S : pm_S)  (r : (Int32 × pm_S)) (h : F_M_breaksTo_129 N  x4 S = some r) : pmE pG (pm_rel pG sp (d + 1)) mi_M_breaksTo 129 [none, none, none, none, some (.int x4), none, none] [] S (some (.int r.1), r.2) := by
  unfold F_M_breaksTo_129 at h
  refine pE_jump 1 (pc' := 131) (ls' := [none, none, none, none, some (.int x4), none, none]) (st' := [.int x4]) (fun _ => rfl) ?_
  cases h
  exact pE_ret rfl rfl rfl
def F_M_breaksTo_120 (N : Nat) (rec34 : Int32 → Int32 → pm_S → Option (Int32 × pm_S)) (x0 : Nat) (x1 : Int32) (x2 : Int32) (x3 : Int32) (x5 : Int32) (t0 : Int32) (t1 : Int32) (S : pm_S) : Option (Int32 × pm_S) :=
    rec34 (t1 + t0) (x5 + 1) S
set_option maxHeartbeats 4000000 in
set_option maxRecDepth 20000 in
theorem f_M_breaksTo_120 (sp : pm_I → List Value → pm_S → pm_O → Prop) (d N : Nat) (rec34 : Int32 → Int32 → pm_S → Option (Int32 × pm_S)) (x0 : Nat) (x1 : Int32) (x2 : Int32) (x3 : Int32) (x5 : Int32) (t0 : Int32) (t1 : Int32) (S : pm_S) (hrec34 : ∀ (y1 : Int32) (y2 : Int32) (U : pm_S) (r : (Int32 × pm_S)), rec34 y1 y2 U = some r → pmE pG (pm_rel pG sp (d + 1)) mi_M_breaksTo 34 [some (.ref x0), some (.int x1), some (.int x2), some (.int x3), some (.int y1), some (.int y2), none] [] U (some (.int r.1), r.2)) (r : (Int32 × pm_S)) (h : F_M_breaksTo_120 N rec34 x0 x1 x2 x3 x5 t0 t1 S = some r) : pmE pG (pm_rel pG sp (d + 1)) mi_M_breaksTo 120 [some (.ref x0), some (.int x1), some (.int x2), some (.int x3), none, some (.int x5), none] [.int t0, .int t1] S (some (.int r.1), r.2) := by
  unfold F_M_breaksTo_120 at h
  refine pE_jump 4 (pc' := 34) (ls' := [some (.ref x0), some (.int x1), some (.int x2), some (.int x3), some (.int (t1 + t0)), some (.int (x5 + 1)), none]) (st' := []) (fun _ => rfl) ?_
  exact hrec34 (t1 + t0) (x5 + 1) S _ h
def F_M_breaksTo_119 (N : Nat) (rec34 : Int32 → Int32 → pm_S → Option (Int32 × pm_S)) (x0 : Nat) (x1 : Int32) (x2 : Int32) (x3 : Int32) (x5 : Int32) (t0 : Int32) (S : pm_S) : Option (Int32 × pm_S) :=
    F_M_breaksTo_120 N rec34 x0 x1 x2 x3 x5 0 t0 S
set_option maxHeartbeats 4000000 in
set_option maxRecDepth 20000 in
theorem f_M_breaksTo_119 (sp : pm_I → List Value → pm_S → pm_O → Prop) (d N : Nat) (rec34 : Int32 → Int32 → pm_S → Option (Int32 × pm_S)) (x0 : Nat) (x1 : Int32) (x2 : Int32) (x3 : Int32) (x5 : Int32) (t0 : Int32) (S : pm_S) (hrec34 : ∀ (y1 : Int32) (y2 : Int32) (U : pm_S) (r : (Int32 × pm_S)), rec34 y1 y2 U = some r → pmE pG (pm_rel pG sp (d + 1)) mi_M_breaksTo 34 [some (.ref x0), some (.int x1), some (.int x2), some (.int x3), some (.int y1), some (.int y2), none] [] U (some (.int r.1), r.2)) (r : (Int32 × pm_S)) (h : F_M_breaksTo_119 N rec34 x0 x1 x2 x3 x5 t0 S = some r) : pmE pG (pm_rel pG sp (d + 1)) mi_M_breaksTo 119 [some (.ref x0), some (.int x1), some (.int x2), some (.int x3), none, some (.int x5), none] [.int t0] S (some (.int r.1), r.2) := by
  unfold F_M_breaksTo_119 at h
  refine pE_jump 1 (pc' := 120) (ls' := [some (.ref x0), some (.int x1), some (.int x2), some (.int x3), none, some (.int x5), none]) (st' := [.int 0, .int t0]) (fun _ => rfl) ?_
  exact f_M_breaksTo_120 sp d N rec34 x0 x1 x2 x3 x5 0 t0 S hrec34 _ h
def B_M_breaksTo_34 (N : Nat)  (rec34 : Int32 → Int32 → pm_S → Option (Int32 × pm_S)) (x0 : Nat) (x1 : Int32) (x2 : Int32) (x3 : Int32) (x4 : Int32) (x5 : Int32) (S : pm_S) : Option (Int32 × pm_S) :=
    (oR S x0 11 20).bind fun oq4 => match oq4 with
    | none => none
    | some q4 =>
    (oI S x0 11 29).bind fun v6 =>
    (aI [0, 6] S q4 v6).bind fun v7 =>
    if v7 ≤ x5 then
    F_M_breaksTo_129 N x4 S
    else
    ((oI S x0 11 29).bind fun v8 =>
    (F_M_isSo N S x0 x5).bind fun (v10, S9) =>
    if v10 = 0 then
    F_M_breaksTo_119 N rec34 x0 x1 x2 x3 x5 x4 S9
    else
    ((oR S9 x0 11 21).bind fun oq11 => match oq11 with
    | none => none
    | some q11 =>
    (aI [0, 6] S9 q11 ((10 * v8) + x5)).bind fun v12 =>
    if v12 = 1 then
    ((oR S9 x0 11 22).bind fun oq13 => match oq13 with
    | none => none
    | some q13 =>
    (aI [0, 6] S9 q13 ((10 * v8) + x5)).bind fun v14 =>
    if v14 = x1 then
    ((oR S9 x0 11 23).bind fun oq15 => match oq15 with
    | none => none
    | some q15 =>
    (aI [0, 6] S9 q15 ((10 * v8) + x5)).bind fun v16 =>
    if v16 = x2 then
    ((oR S9 x0 11 25).bind fun oq17 => match oq17 with
    | none => none
    | some q17 =>
    (aI [0, 6] S9 q17 ((10 * v8) + x5)).bind fun v18 =>
    if x3 < v18 then
    F_M_breaksTo_119 N rec34 x0 x1 x2 x3 x5 x4 S9
    else
    F_M_breaksTo_120 N rec34 x0 x1 x2 x3 x5 1 x4 S9)
    else
    F_M_breaksTo_119 N rec34 x0 x1 x2 x3 x5 x4 S9)
    else
    F_M_breaksTo_119 N rec34 x0 x1 x2 x3 x5 x4 S9)
    else
    F_M_breaksTo_119 N rec34 x0 x1 x2 x3 x5 x4 S9))
def F_M_breaksTo_34 (N : Nat)  (x0 : Nat) (x1 : Int32) (x2 : Int32) (x3 : Int32) : Nat → Int32 → Int32 → pm_S → Option (Int32 × pm_S)
  | 0 => fun _ _ _ => none
  | n + 1 => fun x4 x5 S => B_M_breaksTo_34 N  (F_M_breaksTo_34 N  x0 x1 x2 x3 n) x0 x1 x2 x3 x4 x5 S
set_option maxHeartbeats 4000000 in
set_option maxRecDepth 20000 in
theorem f_M_breaksTo_34 (sp : pm_I → List Value → pm_S → pm_O → Prop) (d N : Nat)  (x0 : Nat) (x1 : Int32) (x2 : Int32) (x3 : Int32)  : ∀ (n : Nat) (x4 : Int32) (x5 : Int32) (S : pm_S) (r : (Int32 × pm_S)), F_M_breaksTo_34 N  x0 x1 x2 x3 n x4 x5 S = some r → pmE pG (pm_rel pG sp (d + 1)) mi_M_breaksTo 34 [some (.ref x0), some (.int x1), some (.int x2), some (.int x3), some (.int x4), some (.int x5), none] [] S (some (.int r.1), r.2) := by
  intro n
  induction n with
  | zero =>
    intro x4 x5 S r h
    cases h
  | succ n ih =>
    intro x4 x5 S r h
    replace h : B_M_breaksTo_34 N  (F_M_breaksTo_34 N  x0 x1 x2 x3 n) x0 x1 x2 x3 x4 x5 S = some r := h
    have hrec34 := ih
    generalize F_M_breaksTo_34 N  x0 x1 x2 x3 n = rec34 at h hrec34
    unfold B_M_breaksTo_34 at h
    refine pE_jump 2 (pc' := 37) (ls' := [some (.ref x0), some (.int x1), some (.int x2), some (.int x3), some (.int x4), some (.int x5), none]) (st' := [.ref x0, .int x5]) (fun _ => rfl) ?_
    obtain ⟨oq4, hq4, h⟩ := obind h
    cases oq4 with
    | none => cases h
    | some q4 =>
      try dsimp only at h
      refine pE_gfS rfl rfl hq4 ?_
      refine pE_jump 1 (pc' := 41) (ls' := [some (.ref x0), some (.int x1), some (.int x2), some (.int x3), some (.int x4), some (.int x5), none]) (st' := [.ref x0, .ref q4, .int x5]) (fun _ => rfl) ?_
      obtain ⟨v6, hv6, h⟩ := obind h
      refine pE_gfI rfl rfl hv6 ?_
      obtain ⟨v7, hv7, h⟩ := obind h
      refine pE_aI rfl rfl hv7 ?_
      refine pE_br (v7 ≤ x5) rfl rfl (fun c24 => ?_) (fun c24 => ?_)
      · rw [if_pos c24] at h
        refine pE_weak [none, none, none, none, some (.int x4), none, none] ⟨rfl, trivial⟩ ?_
        exact f_M_breaksTo_129 sp d N x4 S _ h
      · rw [if_neg c24] at h
        refine pE_jump 2 (pc' := 51) (ls' := [some (.ref x0), some (.int x1), some (.int x2), some (.int x3), some (.int x4), some (.int x5), none]) (st' := [.ref x0, .int 10]) (fun _ => rfl) ?_
        obtain ⟨v8, hv8, h⟩ := obind h
        refine pE_gfI rfl rfl hv8 ?_
        refine pE_jump 7 (pc' := 65) (ls' := [some (.ref x0), some (.int x1), some (.int x2), some (.int x3), some (.int x4), some (.int x5), some (.int ((10 * v8) + x5))]) (st' := [.int x5, .ref x0, .int x4]) (fun _ => rfl) ?_
        obtain ⟨⟨v10, S9⟩, hv10, h⟩ := obind h
        try dsimp only at h
        refine pE_iv (Bs := [.int x5]) (st := [.int x4]) 1 rfl (Or.inl ⟨rfl, rfl⟩) rfl rfl (Nat.le_of_ble_eq_true rfl) (Nat.le_of_ble_eq_true rfl) (g_M_isSo hv10) (f_M_isSo sp d N S x0 x5 _ hv10) ?_
        refine pE_br (v10 = 0) rfl rfl (fun c23 => ?_) (fun c23 => ?_)
        · rw [if_pos c23] at h
          refine pE_weak [some (.ref x0), some (.int x1), some (.int x2), some (.int x3), none, some (.int x5), none] ⟨rfl, ⟨rfl, ⟨rfl, ⟨rfl, ⟨rfl, trivial⟩⟩⟩⟩⟩ ?_
          exact f_M_breaksTo_119 sp d N rec34 x0 x1 x2 x3 x5 x4 S9 hrec34 _ h
        · rw [if_neg c23] at h
          refine pE_jump 1 (pc' := 72) (ls' := [some (.ref x0), some (.int x1), some (.int x2), some (.int x3), some (.int x4), some (.int x5), some (.int ((10 * v8) + x5))]) (st' := [.ref x0, .int x4]) (fun _ => rfl) ?_
          obtain ⟨oq11, hq11, h⟩ := obind h
          cases oq11 with
          | none => cases h
          | some q11 =>
            try dsimp only at h
            refine pE_gfS rfl rfl hq11 ?_
            refine pE_jump 1 (pc' := 77) (ls' := [some (.ref x0), some (.int x1), some (.int x2), some (.int x3), some (.int x4), some (.int x5), some (.int ((10 * v8) + x5))]) (st' := [.int ((10 * v8) + x5), .ref q11, .int x4]) (fun _ => rfl) ?_
            obtain ⟨v12, hv12, h⟩ := obind h
            refine pE_aI rfl rfl hv12 ?_
            refine pE_jump 1 (pc' := 79) (ls' := [some (.ref x0), some (.int x1), some (.int x2), some (.int x3), some (.int x4), some (.int x5), some (.int ((10 * v8) + x5))]) (st' := [.int 1, .int v12, .int x4]) (fun _ => rfl) ?_
            refine pE_br (¬ v12 = 1) rfl rfl (fun c22 => ?_) (fun c22 => ?_)
            · rw [if_neg c22] at h
              refine pE_weak [some (.ref x0), some (.int x1), some (.int x2), some (.int x3), none, some (.int x5), none] ⟨rfl, ⟨rfl, ⟨rfl, ⟨rfl, ⟨rfl, trivial⟩⟩⟩⟩⟩ ?_
              exact f_M_breaksTo_119 sp d N rec34 x0 x1 x2 x3 x5 x4 S9 hrec34 _ h
            · have c22 := Decidable.not_not.mp c22
              rw [if_pos c22] at h
              refine pE_jump 1 (pc' := 83) (ls' := [some (.ref x0), some (.int x1), some (.int x2), some (.int x3), some (.int x4), some (.int x5), some (.int ((10 * v8) + x5))]) (st' := [.ref x0, .int x4]) (fun _ => rfl) ?_
              obtain ⟨oq13, hq13, h⟩ := obind h
              cases oq13 with
              | none => cases h
              | some q13 =>
                try dsimp only at h
                refine pE_gfS rfl rfl hq13 ?_
                refine pE_jump 1 (pc' := 88) (ls' := [some (.ref x0), some (.int x1), some (.int x2), some (.int x3), some (.int x4), some (.int x5), some (.int ((10 * v8) + x5))]) (st' := [.int ((10 * v8) + x5), .ref q13, .int x4]) (fun _ => rfl) ?_
                obtain ⟨v14, hv14, h⟩ := obind h
                refine pE_aI rfl rfl hv14 ?_
                refine pE_jump 1 (pc' := 90) (ls' := [some (.ref x0), some (.int x1), some (.int x2), some (.int x3), some (.int x4), some (.int x5), some (.int ((10 * v8) + x5))]) (st' := [.int x1, .int v14, .int x4]) (fun _ => rfl) ?_
                refine pE_br (¬ v14 = x1) rfl rfl (fun c21 => ?_) (fun c21 => ?_)
                · rw [if_neg c21] at h
                  refine pE_weak [some (.ref x0), some (.int x1), some (.int x2), some (.int x3), none, some (.int x5), none] ⟨rfl, ⟨rfl, ⟨rfl, ⟨rfl, ⟨rfl, trivial⟩⟩⟩⟩⟩ ?_
                  exact f_M_breaksTo_119 sp d N rec34 x0 x1 x2 x3 x5 x4 S9 hrec34 _ h
                · have c21 := Decidable.not_not.mp c21
                  rw [if_pos c21] at h
                  refine pE_jump 1 (pc' := 94) (ls' := [some (.ref x0), some (.int x1), some (.int x2), some (.int x3), some (.int x4), some (.int x5), some (.int ((10 * v8) + x5))]) (st' := [.ref x0, .int x4]) (fun _ => rfl) ?_
                  obtain ⟨oq15, hq15, h⟩ := obind h
                  cases oq15 with
                  | none => cases h
                  | some q15 =>
                    try dsimp only at h
                    refine pE_gfS rfl rfl hq15 ?_
                    refine pE_jump 1 (pc' := 99) (ls' := [some (.ref x0), some (.int x1), some (.int x2), some (.int x3), some (.int x4), some (.int x5), some (.int ((10 * v8) + x5))]) (st' := [.int ((10 * v8) + x5), .ref q15, .int x4]) (fun _ => rfl) ?_
                    obtain ⟨v16, hv16, h⟩ := obind h
                    refine pE_aI rfl rfl hv16 ?_
                    refine pE_jump 1 (pc' := 101) (ls' := [some (.ref x0), some (.int x1), some (.int x2), some (.int x3), some (.int x4), some (.int x5), some (.int ((10 * v8) + x5))]) (st' := [.int x2, .int v16, .int x4]) (fun _ => rfl) ?_
                    refine pE_br (¬ v16 = x2) rfl rfl (fun c20 => ?_) (fun c20 => ?_)
                    · rw [if_neg c20] at h
                      refine pE_weak [some (.ref x0), some (.int x1), some (.int x2), some (.int x3), none, some (.int x5), none] ⟨rfl, ⟨rfl, ⟨rfl, ⟨rfl, ⟨rfl, trivial⟩⟩⟩⟩⟩ ?_
                      exact f_M_breaksTo_119 sp d N rec34 x0 x1 x2 x3 x5 x4 S9 hrec34 _ h
                    · have c20 := Decidable.not_not.mp c20
                      rw [if_pos c20] at h
                      refine pE_jump 1 (pc' := 105) (ls' := [some (.ref x0), some (.int x1), some (.int x2), some (.int x3), some (.int x4), some (.int x5), some (.int ((10 * v8) + x5))]) (st' := [.ref x0, .int x4]) (fun _ => rfl) ?_
                      obtain ⟨oq17, hq17, h⟩ := obind h
                      cases oq17 with
                      | none => cases h
                      | some q17 =>
                        try dsimp only at h
                        refine pE_gfS rfl rfl hq17 ?_
                        refine pE_jump 1 (pc' := 110) (ls' := [some (.ref x0), some (.int x1), some (.int x2), some (.int x3), some (.int x4), some (.int x5), some (.int ((10 * v8) + x5))]) (st' := [.int ((10 * v8) + x5), .ref q17, .int x4]) (fun _ => rfl) ?_
                        obtain ⟨v18, hv18, h⟩ := obind h
                        refine pE_aI rfl rfl hv18 ?_
                        refine pE_jump 1 (pc' := 112) (ls' := [some (.ref x0), some (.int x1), some (.int x2), some (.int x3), some (.int x4), some (.int x5), some (.int ((10 * v8) + x5))]) (st' := [.int x3, .int v18, .int x4]) (fun _ => rfl) ?_
                        refine pE_br (x3 < v18) rfl rfl (fun c19 => ?_) (fun c19 => ?_)
                        · rw [if_pos c19] at h
                          refine pE_weak [some (.ref x0), some (.int x1), some (.int x2), some (.int x3), none, some (.int x5), none] ⟨rfl, ⟨rfl, ⟨rfl, ⟨rfl, ⟨rfl, trivial⟩⟩⟩⟩⟩ ?_
                          exact f_M_breaksTo_119 sp d N rec34 x0 x1 x2 x3 x5 x4 S9 hrec34 _ h
                        · rw [if_neg c19] at h
                          refine pE_jump 2 (pc' := 120) (ls' := [some (.ref x0), some (.int x1), some (.int x2), some (.int x3), some (.int x4), some (.int x5), some (.int ((10 * v8) + x5))]) (st' := [.int 1, .int x4]) (fun _ => rfl) ?_
                          refine pE_weak [some (.ref x0), some (.int x1), some (.int x2), some (.int x3), none, some (.int x5), none] ⟨rfl, ⟨rfl, ⟨rfl, ⟨rfl, ⟨rfl, trivial⟩⟩⟩⟩⟩ ?_
                          exact f_M_breaksTo_120 sp d N rec34 x0 x1 x2 x3 x5 1 x4 S9 hrec34 _ h
def F_M_breaksTo_29 (N : Nat)  (x0 : Nat) (x1 : Int32) (x2 : Int32) (x3 : Int32) (t0 : Int32) (S : pm_S) : Option (Int32 × pm_S) :=
    F_M_breaksTo_34 N x0 x1 x2 x3 N t0 0 S
set_option maxHeartbeats 4000000 in
set_option maxRecDepth 20000 in
theorem f_M_breaksTo_29 (sp : pm_I → List Value → pm_S → pm_O → Prop) (d N : Nat)  (x0 : Nat) (x1 : Int32) (x2 : Int32) (x3 : Int32) (t0 : Int32) (S : pm_S)  (r : (Int32 × pm_S)) (h : F_M_breaksTo_29 N  x0 x1 x2 x3 t0 S = some r) : pmE pG (pm_rel pG sp (d + 1)) mi_M_breaksTo 29 [some (.ref x0), some (.int x1), some (.int x2), some (.int x3), none, none, none] [.int t0] S (some (.int r.1), r.2) := by
  unfold F_M_breaksTo_29 at h
  refine pE_jump 3 (pc' := 34) (ls' := [some (.ref x0), some (.int x1), some (.int x2), some (.int x3), some (.int t0), some (.int 0), none]) (st' := []) (fun _ => rfl) ?_
  exact f_M_breaksTo_34 sp d N x0 x1 x2 x3 N t0 0 S _ h
def F_M_breaksTo_28 (N : Nat)  (x0 : Nat) (x1 : Int32) (x2 : Int32) (x3 : Int32) (S : pm_S) : Option (Int32 × pm_S) :=
    F_M_breaksTo_29 N x0 x1 x2 x3 0 S
set_option maxHeartbeats 4000000 in
set_option maxRecDepth 20000 in
theorem f_M_breaksTo_28 (sp : pm_I → List Value → pm_S → pm_O → Prop) (d N : Nat)  (x0 : Nat) (x1 : Int32) (x2 : Int32) (x3 : Int32) (S : pm_S)  (r : (Int32 × pm_S)) (h : F_M_breaksTo_28 N  x0 x1 x2 x3 S = some r) : pmE pG (pm_rel pG sp (d + 1)) mi_M_breaksTo 28 [some (.ref x0), some (.int x1), some (.int x2), some (.int x3), none, none, none] [] S (some (.int r.1), r.2) := by
  unfold F_M_breaksTo_28 at h
  refine pE_jump 1 (pc' := 29) (ls' := [some (.ref x0), some (.int x1), some (.int x2), some (.int x3), none, none, none]) (st' := [.int 0]) (fun _ => rfl) ?_
  exact f_M_breaksTo_29 sp d N x0 x1 x2 x3 0 S _ h
def F_M_breaksTo (N : Nat) (S : pm_S) (a : Nat) (p0 : Int32) (p1 : Int32) (p2 : Int32) : Option (Int32 × pm_S) :=
    if rcv S a 11 = true then
    ((oI S a 11 31).bind fun v1 =>
    if v1 = p0 then
    ((oI S a 11 32).bind fun v2 =>
    if v2 = p1 then
    ((oI S a 11 33).bind fun v3 =>
    if p2 < v3 then
    F_M_breaksTo_28 N a p0 p1 p2 S
    else
    F_M_breaksTo_29 N a p0 p1 p2 1 S)
    else
    F_M_breaksTo_28 N a p0 p1 p2 S)
    else
    F_M_breaksTo_28 N a p0 p1 p2 S)
    else none
theorem g_M_breaksTo {N : Nat} {S : pm_S} {a : Nat} {p0 : Int32} {p1 : Int32} {p2 : Int32} {r : (Int32 × pm_S)} (h : F_M_breaksTo N S a p0 p1 p2 = some r) : rcv S a 11 = true := by
  unfold F_M_breaksTo at h
  by_cases c : rcv S a 11 = true
  · exact c
  · rw [if_neg c] at h; cases h
set_option maxHeartbeats 4000000 in
set_option maxRecDepth 20000 in
theorem f_M_breaksTo (sp : pm_I → List Value → pm_S → pm_O → Prop) (d N : Nat) (S : pm_S) (a : Nat) (p0 : Int32) (p1 : Int32) (p2 : Int32) (r : (Int32 × pm_S)) (h : F_M_breaksTo N S a p0 p1 p2 = some r) : pm_rel pG sp (d + 2) mi_M_breaksTo [.ref a, .int p0, .int p1, .int p2] S (some (.int r.1), r.2) := by
  have hg := g_M_breaksTo h
  unfold F_M_breaksTo at h
  rw [if_pos hg] at h
  refine pE_rel (d := d + 1) ?_
  show pmE pG _ mi_M_breaksTo 0 [some (.ref a), some (.int p0), some (.int p1), some (.int p2), none, none, none] [] S _
  refine pE_jump 1 (pc' := 1) (ls' := [some (.ref a), some (.int p0), some (.int p1), some (.int p2), none, none, none]) (st' := [.ref a]) (fun _ => rfl) ?_
  obtain ⟨v1, hv1, h⟩ := obind h
  refine pE_gfI rfl rfl hv1 ?_
  refine pE_jump 1 (pc' := 5) (ls' := [some (.ref a), some (.int p0), some (.int p1), some (.int p2), none, none, none]) (st' := [.int p0, .int v1]) (fun _ => rfl) ?_
  refine pE_br (¬ v1 = p0) rfl rfl (fun c27 => ?_) (fun c27 => ?_)
  · rw [if_neg c27] at h
    exact f_M_breaksTo_28 sp d N a p0 p1 p2 S _ h
  · have c27 := Decidable.not_not.mp c27
    rw [if_pos c27] at h
    refine pE_jump 1 (pc' := 9) (ls' := [some (.ref a), some (.int p0), some (.int p1), some (.int p2), none, none, none]) (st' := [.ref a]) (fun _ => rfl) ?_
    obtain ⟨v2, hv2, h⟩ := obind h
    refine pE_gfI rfl rfl hv2 ?_
    refine pE_jump 1 (pc' := 13) (ls' := [some (.ref a), some (.int p0), some (.int p1), some (.int p2), none, none, none]) (st' := [.int p1, .int v2]) (fun _ => rfl) ?_
    refine pE_br (¬ v2 = p1) rfl rfl (fun c26 => ?_) (fun c26 => ?_)
    · rw [if_neg c26] at h
      exact f_M_breaksTo_28 sp d N a p0 p1 p2 S _ h
    · have c26 := Decidable.not_not.mp c26
      rw [if_pos c26] at h
      refine pE_jump 1 (pc' := 17) (ls' := [some (.ref a), some (.int p0), some (.int p1), some (.int p2), none, none, none]) (st' := [.ref a]) (fun _ => rfl) ?_
      obtain ⟨v3, hv3, h⟩ := obind h
      refine pE_gfI rfl rfl hv3 ?_
      refine pE_jump 1 (pc' := 21) (ls' := [some (.ref a), some (.int p0), some (.int p1), some (.int p2), none, none, none]) (st' := [.int p2, .int v3]) (fun _ => rfl) ?_
      refine pE_br (p2 < v3) rfl rfl (fun c25 => ?_) (fun c25 => ?_)
      · rw [if_pos c25] at h
        exact f_M_breaksTo_28 sp d N a p0 p1 p2 S _ h
      · rw [if_neg c25] at h
        refine pE_jump 2 (pc' := 29) (ls' := [some (.ref a), some (.int p0), some (.int p1), some (.int p2), none, none, none]) (st' := [.int 1]) (fun _ => rfl) ?_
        exact f_M_breaksTo_29 sp d N a p0 p1 p2 1 S _ h
def F_M_farNode (N : Nat) (S : pm_S) (a : Nat) (p0 : Int32) (p1 : Int32) : Option (Int32 × pm_S) :=
    if rcv S a 11 = true then
    ((F_M_cameAs N S a p0 p1).bind fun (v2, S1) =>
    (F_M_longOf N S1 a p0).bind fun (v4, S3) =>
    (F_M_breaksTo N S3 a p0 v2 v4).bind fun (v6, S5) =>
    (F_M_node N S5 p0 v2 v6).bind fun (v8, S7) =>
    some (v8, S7))
    else none
theorem g_M_farNode {N : Nat} {S : pm_S} {a : Nat} {p0 : Int32} {p1 : Int32} {r : (Int32 × pm_S)} (h : F_M_farNode N S a p0 p1 = some r) : rcv S a 11 = true := by
  unfold F_M_farNode at h
  by_cases c : rcv S a 11 = true
  · exact c
  · rw [if_neg c] at h; cases h
set_option maxHeartbeats 4000000 in
set_option maxRecDepth 20000 in
theorem f_M_farNode (sp : pm_I → List Value → pm_S → pm_O → Prop) (d N : Nat) (S : pm_S) (a : Nat) (p0 : Int32) (p1 : Int32) (r : (Int32 × pm_S)) (h : F_M_farNode N S a p0 p1 = some r) : pm_rel pG sp (d + 3) mi_M_farNode [.ref a, .int p0, .int p1] S (some (.int r.1), r.2) := by
  have hg := g_M_farNode h
  unfold F_M_farNode at h
  rw [if_pos hg] at h
  refine pE_rel (d := d + 2) ?_
  show pmE pG _ mi_M_farNode 0 [some (.ref a), some (.int p0), some (.int p1), none] [] S _
  refine pE_jump 3 (pc' := 3) (ls' := [some (.ref a), some (.int p0), some (.int p1), none]) (st' := [.int p1, .int p0, .ref a]) (fun _ => rfl) ?_
  obtain ⟨⟨v2, S1⟩, hv2, h⟩ := obind h
  try dsimp only at h
  refine pE_iv (Bs := [.int p0, .int p1]) (st := []) 1 rfl (Or.inl ⟨rfl, rfl⟩) rfl rfl (Nat.le_of_ble_eq_true rfl) (Nat.le_of_ble_eq_true rfl) (g_M_cameAs hv2) (f_M_cameAs sp (d + 1) N S a p0 p1 _ hv2) ?_
  refine pE_jump 8 (pc' := 14) (ls' := [some (.ref a), some (.int p0), some (.int p1), some (.int v2)]) (st' := [.int p0, .ref a, .int v2, .int p0, .ref a, .int v2, .int p0]) (fun _ => rfl) ?_
  obtain ⟨⟨v4, S3⟩, hv4, h⟩ := obind h
  try dsimp only at h
  refine pE_iv (Bs := [.int p0]) (st := [.int v2, .int p0, .ref a, .int v2, .int p0]) 1 rfl (Or.inl ⟨rfl, rfl⟩) rfl rfl (Nat.le_of_ble_eq_true rfl) (Nat.le_of_ble_eq_true rfl) (g_M_longOf hv4) (f_M_longOf sp (d + 1) N S1 a p0 _ hv4) ?_
  obtain ⟨⟨v6, S5⟩, hv6, h⟩ := obind h
  try dsimp only at h
  refine pE_iv (Bs := [.int p0, .int v2, .int v4]) (st := [.int v2, .int p0]) 1 rfl (Or.inl ⟨rfl, rfl⟩) rfl rfl (Nat.le_of_ble_eq_true rfl) (Nat.le_of_ble_eq_true rfl) (g_M_breaksTo hv6) (f_M_breaksTo sp d N S3 a p0 v2 v4 _ hv6) ?_
  obtain ⟨⟨v8, S7⟩, hv8, h⟩ := obind h
  try dsimp only at h
  refine pE_is (Bs := [.int p0, .int v2, .int v6]) (st := []) rfl rfl rfl (Nat.le_of_ble_eq_true rfl) (Nat.le_of_ble_eq_true rfl) (f_M_node sp (d + 1) N S5 p0 v2 v6 _ hv8) ?_
  cases h
  exact pE_ret rfl rfl rfl
def F_M_nodeAt_19 (N : Nat)  (t0 : Int32) (S : pm_S) : Option (Int32 × pm_S) :=
    some (t0, S)
set_option maxHeartbeats 4000000 in
set_option maxRecDepth 20000 in
theorem f_M_nodeAt_19 (sp : pm_I → List Value → pm_S → pm_O → Prop) (d N : Nat)  (t0 : Int32) (S : pm_S)  (r : (Int32 × pm_S)) (h : F_M_nodeAt_19 N  t0 S = some r) : pmE pG (pm_rel pG sp (d + 3)) mi_M_nodeAt 19 [none, none, none, none] [.int t0] S (some (.int r.1), r.2) := by
  unfold F_M_nodeAt_19 at h
  cases h
  exact pE_ret rfl rfl rfl
def F_M_nodeAt (N : Nat) (S : pm_S) (a : Nat) (p0 : Int32) (p1 : Int32) (p2 : Int32) : Option (Int32 × pm_S) :=
    if rcv S a 11 = true then
    (if p2 = 0 then
    ((F_M_nearNode N S a p0 p1).bind fun (v2, S1) =>
    F_M_nodeAt_19 N v2 S1)
    else
    ((F_M_farNode N S a p0 p1).bind fun (v4, S3) =>
    F_M_nodeAt_19 N v4 S3))
    else none
theorem g_M_nodeAt {N : Nat} {S : pm_S} {a : Nat} {p0 : Int32} {p1 : Int32} {p2 : Int32} {r : (Int32 × pm_S)} (h : F_M_nodeAt N S a p0 p1 p2 = some r) : rcv S a 11 = true := by
  unfold F_M_nodeAt at h
  by_cases c : rcv S a 11 = true
  · exact c
  · rw [if_neg c] at h; cases h
set_option maxHeartbeats 4000000 in
set_option maxRecDepth 20000 in
theorem f_M_nodeAt (sp : pm_I → List Value → pm_S → pm_O → Prop) (d N : Nat) (S : pm_S) (a : Nat) (p0 : Int32) (p1 : Int32) (p2 : Int32) (r : (Int32 × pm_S)) (h : F_M_nodeAt N S a p0 p1 p2 = some r) : pm_rel pG sp (d + 4) mi_M_nodeAt [.ref a, .int p0, .int p1, .int p2] S (some (.int r.1), r.2) := by
  have hg := g_M_nodeAt h
  unfold F_M_nodeAt at h
  rw [if_pos hg] at h
  refine pE_rel (d := d + 3) ?_
  show pmE pG _ mi_M_nodeAt 0 [some (.ref a), some (.int p0), some (.int p1), some (.int p2)] [] S _
  refine pE_jump 1 (pc' := 1) (ls' := [some (.ref a), some (.int p0), some (.int p1), some (.int p2)]) (st' := [.int p2]) (fun _ => rfl) ?_
  refine pE_br (¬ p2 = 0) rfl rfl (fun c5 => ?_) (fun c5 => ?_)
  · rw [if_neg c5] at h
    refine pE_jump 3 (pc' := 16) (ls' := [some (.ref a), some (.int p0), some (.int p1), some (.int p2)]) (st' := [.int p1, .int p0, .ref a]) (fun _ => rfl) ?_
    obtain ⟨⟨v4, S3⟩, hv4, h⟩ := obind h
    try dsimp only at h
    refine pE_iv (Bs := [.int p0, .int p1]) (st := []) 1 rfl (Or.inl ⟨rfl, rfl⟩) rfl rfl (Nat.le_of_ble_eq_true rfl) (Nat.le_of_ble_eq_true rfl) (g_M_farNode hv4) (f_M_farNode sp d N S a p0 p1 _ hv4) ?_
    refine pE_weak [none, none, none, none] trivial ?_
    exact f_M_nodeAt_19 sp d N v4 S3 _ h
  · have c5 := Decidable.not_not.mp c5
    rw [if_pos c5] at h
    refine pE_jump 3 (pc' := 7) (ls' := [some (.ref a), some (.int p0), some (.int p1), some (.int p2)]) (st' := [.int p1, .int p0, .ref a]) (fun _ => rfl) ?_
    obtain ⟨⟨v2, S1⟩, hv2, h⟩ := obind h
    try dsimp only at h
    refine pE_iv (Bs := [.int p0, .int p1]) (st := []) 1 rfl (Or.inl ⟨rfl, rfl⟩) rfl rfl (Nat.le_of_ble_eq_true rfl) (Nat.le_of_ble_eq_true rfl) (g_M_nearNode hv2) (f_M_nearNode sp (d + 1) N S a p0 p1 _ hv2) ?_
    refine pE_jump 1 (pc' := 19) (ls' := [some (.ref a), some (.int p0), some (.int p1), some (.int p2)]) (st' := [.int v2]) (fun _ => rfl) ?_
    refine pE_weak [none, none, none, none] trivial ?_
    exact f_M_nodeAt_19 sp d N v2 S1 _ h
def F_M_links_39 (N : Nat)  (x3 : Int32) (S : pm_S) : Option (Int32 × pm_S) :=
    if x3 = 0 ∨ x3 = 1 then some (x3, S) else none
set_option maxHeartbeats 4000000 in
set_option maxRecDepth 20000 in
theorem f_M_links_39 (sp : pm_I → List Value → pm_S → pm_O → Prop) (d N : Nat)  (x3 : Int32) (S : pm_S)  (r : (Int32 × pm_S)) (h : F_M_links_39 N  x3 S = some r) : pmE pG (pm_rel pG sp (d + 0)) mi_M_links 39 [none, none, none, some (.int x3)] [] S (some (.int r.1), r.2) := by
  unfold F_M_links_39 at h
  refine pE_jump 1 (pc' := 40) (ls' := [none, none, none, some (.int x3)]) (st' := [.int x3]) (fun _ => rfl) ?_
  by_cases c5 : x3 = 0 ∨ x3 = 1
  · rw [if_pos c5] at h
    cases h
    exact pE_ret rfl (if_pos c5) rfl
  · rw [if_neg c5] at h
    cases h
def F_M_links_20 (N : Nat)  (x0 : Nat) (x1 : Int32) (x2 : Int32) (t0 : Int32) (S : pm_S) : Option (Int32 × pm_S) :=
    if t0 = 0 then
    F_M_links_39 N t0 S
    else
    ((oR S x0 11 35).bind fun oq6 => match oq6 with
    | none => none
    | some q6 =>
    (sI [2, 3] S q6 x1 1).bind fun S7 =>
    (oR S7 x0 11 35).bind fun oq8 => match oq8 with
    | none => none
    | some q8 =>
    (sI [2, 3] S7 q8 x2 1).bind fun S9 =>
    F_M_links_39 N t0 S9)
set_option maxHeartbeats 4000000 in
set_option maxRecDepth 20000 in
theorem f_M_links_20 (sp : pm_I → List Value → pm_S → pm_O → Prop) (d N : Nat)  (x0 : Nat) (x1 : Int32) (x2 : Int32) (t0 : Int32) (S : pm_S)  (r : (Int32 × pm_S)) (h : F_M_links_20 N  x0 x1 x2 t0 S = some r) : pmE pG (pm_rel pG sp (d + 0)) mi_M_links 20 [some (.ref x0), some (.int x1), some (.int x2), none] [.int t0] S (some (.int r.1), r.2) := by
  unfold F_M_links_20 at h
  refine pE_jump 2 (pc' := 22) (ls' := [some (.ref x0), some (.int x1), some (.int x2), some (.int t0)]) (st' := [.int t0]) (fun _ => rfl) ?_
  refine pE_br (t0 = 0) rfl rfl (fun c10 => ?_) (fun c10 => ?_)
  · rw [if_pos c10] at h
    refine pE_weak [none, none, none, some (.int t0)] ⟨rfl, trivial⟩ ?_
    exact f_M_links_39 sp d N t0 S _ h
  · rw [if_neg c10] at h
    refine pE_jump 1 (pc' := 26) (ls' := [some (.ref x0), some (.int x1), some (.int x2), some (.int t0)]) (st' := [.ref x0]) (fun _ => rfl) ?_
    obtain ⟨oq6, hq6, h⟩ := obind h
    cases oq6 with
    | none => cases h
    | some q6 =>
      try dsimp only at h
      refine pE_gfS rfl rfl hq6 ?_
      refine pE_jump 2 (pc' := 31) (ls' := [some (.ref x0), some (.int x1), some (.int x2), some (.int t0)]) (st' := [.int 1, .int x1, .ref q6]) (fun _ => rfl) ?_
      obtain ⟨S7, hS7, h⟩ := obind h
      refine pE_sI rfl rfl hS7 ?_
      refine pE_jump 1 (pc' := 33) (ls' := [some (.ref x0), some (.int x1), some (.int x2), some (.int t0)]) (st' := [.ref x0]) (fun _ => rfl) ?_
      obtain ⟨oq8, hq8, h⟩ := obind h
      cases oq8 with
      | none => cases h
      | some q8 =>
        try dsimp only at h
        refine pE_gfS rfl rfl hq8 ?_
        refine pE_jump 2 (pc' := 38) (ls' := [some (.ref x0), some (.int x1), some (.int x2), some (.int t0)]) (st' := [.int 1, .int x2, .ref q8]) (fun _ => rfl) ?_
        obtain ⟨S9, hS9, h⟩ := obind h
        refine pE_sI rfl rfl hS9 ?_
        refine pE_weak [none, none, none, some (.int t0)] ⟨rfl, trivial⟩ ?_
        exact f_M_links_39 sp d N t0 S9 _ h
def F_M_links (N : Nat) (S : pm_S) (a : Nat) (p0 : Int32) (p1 : Int32) : Option (Int32 × pm_S) :=
    if rcv S a 11 = true then
    ((oR S a 11 35).bind fun oq1 => match oq1 with
    | none => none
    | some q1 =>
    (aI [2, 3] S q1 p0).bind fun v2 =>
    (oR S a 11 35).bind fun oq3 => match oq3 with
    | none => none
    | some q3 =>
    (aI [2, 3] S q3 p1).bind fun v4 =>
    if v2 = v4 then
    F_M_links_20 N a p0 p1 0 S
    else
    F_M_links_20 N a p0 p1 1 S)
    else none
theorem g_M_links {N : Nat} {S : pm_S} {a : Nat} {p0 : Int32} {p1 : Int32} {r : (Int32 × pm_S)} (h : F_M_links N S a p0 p1 = some r) : rcv S a 11 = true := by
  unfold F_M_links at h
  by_cases c : rcv S a 11 = true
  · exact c
  · rw [if_neg c] at h; cases h
set_option maxHeartbeats 4000000 in
set_option maxRecDepth 20000 in
theorem f_M_links (sp : pm_I → List Value → pm_S → pm_O → Prop) (d N : Nat) (S : pm_S) (a : Nat) (p0 : Int32) (p1 : Int32) (r : (Int32 × pm_S)) (h : F_M_links N S a p0 p1 = some r) : pm_rel pG sp (d + 1) mi_M_links [.ref a, .int p0, .int p1] S (some (.int r.1), r.2) := by
  have hg := g_M_links h
  unfold F_M_links at h
  rw [if_pos hg] at h
  refine pE_rel (d := d + 0) ?_
  show pmE pG _ mi_M_links 0 [some (.ref a), some (.int p0), some (.int p1), none] [] S _
  refine pE_jump 1 (pc' := 1) (ls' := [some (.ref a), some (.int p0), some (.int p1), none]) (st' := [.ref a]) (fun _ => rfl) ?_
  obtain ⟨oq1, hq1, h⟩ := obind h
  cases oq1 with
  | none => cases h
  | some q1 =>
    try dsimp only at h
    refine pE_gfS rfl rfl hq1 ?_
    refine pE_jump 1 (pc' := 5) (ls' := [some (.ref a), some (.int p0), some (.int p1), none]) (st' := [.int p0, .ref q1]) (fun _ => rfl) ?_
    obtain ⟨v2, hv2, h⟩ := obind h
    refine pE_aI rfl rfl hv2 ?_
    refine pE_jump 1 (pc' := 7) (ls' := [some (.ref a), some (.int p0), some (.int p1), none]) (st' := [.ref a, .int v2]) (fun _ => rfl) ?_
    obtain ⟨oq3, hq3, h⟩ := obind h
    cases oq3 with
    | none => cases h
    | some q3 =>
      try dsimp only at h
      refine pE_gfS rfl rfl hq3 ?_
      refine pE_jump 1 (pc' := 11) (ls' := [some (.ref a), some (.int p0), some (.int p1), none]) (st' := [.int p1, .ref q3, .int v2]) (fun _ => rfl) ?_
      obtain ⟨v4, hv4, h⟩ := obind h
      refine pE_aI rfl rfl hv4 ?_
      refine pE_br (v2 = v4) rfl rfl (fun c11 => ?_) (fun c11 => ?_)
      · rw [if_pos c11] at h
        refine pE_jump 1 (pc' := 20) (ls' := [some (.ref a), some (.int p0), some (.int p1), none]) (st' := [.int 0]) (fun _ => rfl) ?_
        exact f_M_links_20 sp d N a p0 p1 0 S _ h
      · rw [if_neg c11] at h
        refine pE_jump 2 (pc' := 20) (ls' := [some (.ref a), some (.int p0), some (.int p1), none]) (st' := [.int 1]) (fun _ => rfl) ?_
        exact f_M_links_20 sp d N a p0 p1 1 S _ h
def F_M_sound_282 (N : Nat)   (S : pm_S) : Option pm_S :=
    some S
set_option maxHeartbeats 4000000 in
set_option maxRecDepth 20000 in
theorem f_M_sound_282 (sp : pm_I → List Value → pm_S → pm_O → Prop) (d N : Nat)   (S : pm_S)  (r : pm_S) (h : F_M_sound_282 N   S = some r) : pmE pG (pm_rel pG sp (d + 3)) mi_M_sound 282 [none, none, none, none, none, none] [] S (none, r) := by
  unfold F_M_sound_282 at h
  cases h
  exact pE_ret rfl rfl rfl
def F_M_sound_279 (N : Nat) (rec31 : Int32 → pm_S → Option pm_S) (x0 : Nat) (x2 : Int32) (S : pm_S) : Option pm_S :=
    rec31 x2 S
set_option maxHeartbeats 4000000 in
set_option maxRecDepth 20000 in
theorem f_M_sound_279 (sp : pm_I → List Value → pm_S → pm_O → Prop) (d N : Nat) (rec31 : Int32 → pm_S → Option pm_S) (x0 : Nat) (x2 : Int32) (S : pm_S) (hrec31 : ∀ (y1 : Int32) (U : pm_S) (r : pm_S), rec31 y1 U = some r → pmE pG (pm_rel pG sp (d + 3)) mi_M_sound 31 [some (.ref x0), none, some (.int y1), none, none, none] [] U (none, r)) (r : pm_S) (h : F_M_sound_279 N rec31 x0 x2 S = some r) : pmE pG (pm_rel pG sp (d + 3)) mi_M_sound 279 [some (.ref x0), none, some (.int x2), none, none, none] [] S (none, r) := by
  unfold F_M_sound_279 at h
  refine pE_jump 1 (pc' := 31) (ls' := [some (.ref x0), none, some (.int x2), none, none, none]) (st' := []) (fun _ => rfl) ?_
  exact hrec31 x2 S _ h
def F_M_sound_273 (N : Nat) (rec31 : Int32 → pm_S → Option pm_S) (rec138 : Int32 → Int32 → pm_S → Option pm_S) (x0 : Nat) (x2 : Int32) (x3 : Int32) (S : pm_S) : Option pm_S :=
    rec138 x2 (x3 + 1) S
set_option maxHeartbeats 4000000 in
set_option maxRecDepth 20000 in
theorem f_M_sound_273 (sp : pm_I → List Value → pm_S → pm_O → Prop) (d N : Nat) (rec31 : Int32 → pm_S → Option pm_S) (rec138 : Int32 → Int32 → pm_S → Option pm_S) (x0 : Nat) (x2 : Int32) (x3 : Int32) (S : pm_S) (hrec31 : ∀ (y1 : Int32) (U : pm_S) (r : pm_S), rec31 y1 U = some r → pmE pG (pm_rel pG sp (d + 3)) mi_M_sound 31 [some (.ref x0), none, some (.int y1), none, none, none] [] U (none, r)) (hrec138 : ∀ (y1 : Int32) (y2 : Int32) (U : pm_S) (r : pm_S), rec138 y1 y2 U = some r → pmE pG (pm_rel pG sp (d + 3)) mi_M_sound 138 [some (.ref x0), none, some (.int y1), some (.int y2), none, none] [] U (none, r)) (r : pm_S) (h : F_M_sound_273 N rec31 rec138 x0 x2 x3 S = some r) : pmE pG (pm_rel pG sp (d + 3)) mi_M_sound 273 [some (.ref x0), none, some (.int x2), some (.int x3), none, none] [] S (none, r) := by
  unfold F_M_sound_273 at h
  refine pE_jump 2 (pc' := 138) (ls' := [some (.ref x0), none, some (.int x2), some (.int (x3 + 1)), none, none]) (st' := []) (fun _ => rfl) ?_
  exact hrec138 x2 (x3 + 1) S _ h
def B_M_sound_138 (N : Nat) (rec31 : Int32 → pm_S → Option pm_S) (rec138 : Int32 → Int32 → pm_S → Option pm_S) (x0 : Nat) (x2 : Int32) (x3 : Int32) (S : pm_S) : Option pm_S :=
    (oR S x0 11 20).bind fun oq7 => match oq7 with
    | none => none
    | some q7 =>
    (oI S x0 11 29).bind fun v9 =>
    (aI [0, 6] S q7 v9).bind fun v10 =>
    if v10 ≤ x3 then
    F_M_sound_279 N rec31 x0 x2 S
    else
    ((oI S x0 11 34).bind fun v11 =>
    if v11 = 0 then
    F_M_sound_279 N rec31 x0 x2 S
    else
    ((oI S x0 11 29).bind fun v12 =>
    (F_M_isSo N S x0 x3).bind fun (v14, S13) =>
    if v14 = 0 then
    F_M_sound_273 N rec31 rec138 x0 x2 x3 S13
    else
    ((oR S13 x0 11 21).bind fun oq15 => match oq15 with
    | none => none
    | some q15 =>
    (aI [0, 6] S13 q15 ((10 * v12) + x3)).bind fun v16 =>
    if v16 = 2 then
    ((oR S13 x0 11 22).bind fun oq17 => match oq17 with
    | none => none
    | some q17 =>
    (aI [0, 6] S13 q17 ((10 * v12) + x3)).bind fun v18 =>
    (oR S13 x0 11 23).bind fun oq19 => match oq19 with
    | none => none
    | some q19 =>
    (aI [0, 6] S13 q19 ((10 * v12) + x3)).bind fun v20 =>
    (oR S13 x0 11 23).bind fun oq21 => match oq21 with
    | none => none
    | some q21 =>
    (aI [0, 6] S13 q21 ((10 * v12) + x3)).bind fun v22 =>
    (oR S13 x0 11 25).bind fun oq23 => match oq23 with
    | none => none
    | some q23 =>
    (aI [0, 6] S13 q23 ((10 * v12) + x3)).bind fun v24 =>
    (F_M_breaksTo N S13 x0 v18 v22 v24).bind fun (v26, S25) =>
    (F_M_node N S25 v18 v20 v26).bind fun (v28, S27) =>
    (oR S27 x0 11 24).bind fun oq29 => match oq29 with
    | none => none
    | some q29 =>
    (aI [0, 6] S27 q29 ((10 * v12) + x3)).bind fun v30 =>
    (oR S27 x0 11 24).bind fun oq31 => match oq31 with
    | none => none
    | some q31 =>
    (aI [0, 6] S27 q31 ((10 * v12) + x3)).bind fun v32 =>
    (oR S27 x0 11 25).bind fun oq33 => match oq33 with
    | none => none
    | some q33 =>
    (aI [0, 6] S27 q33 ((10 * v12) + x3)).bind fun v34 =>
    (F_M_breaksTo N S27 x0 v18 v32 v34).bind fun (v36, S35) =>
    (F_M_node N S35 v18 v30 v36).bind fun (v38, S37) =>
    (F_M_links N S37 x0 v28 v38).bind fun (v40, S39) =>
    if v40 = 0 then
    F_M_sound_273 N rec31 rec138 x0 x2 x3 S39
    else
    F_M_sound_273 N rec31 rec138 x0 1 x3 S39)
    else
    F_M_sound_273 N rec31 rec138 x0 x2 x3 S13)))
def F_M_sound_138 (N : Nat) (rec31 : Int32 → pm_S → Option pm_S) (x0 : Nat) : Nat → Int32 → Int32 → pm_S → Option pm_S
  | 0 => fun _ _ _ => none
  | n + 1 => fun x2 x3 S => B_M_sound_138 N rec31 (F_M_sound_138 N rec31 x0 n) x0 x2 x3 S
set_option maxHeartbeats 4000000 in
set_option maxRecDepth 20000 in
theorem f_M_sound_138 (sp : pm_I → List Value → pm_S → pm_O → Prop) (d N : Nat) (rec31 : Int32 → pm_S → Option pm_S) (x0 : Nat) (hrec31 : ∀ (y1 : Int32) (U : pm_S) (r : pm_S), rec31 y1 U = some r → pmE pG (pm_rel pG sp (d + 3)) mi_M_sound 31 [some (.ref x0), none, some (.int y1), none, none, none] [] U (none, r)) : ∀ (n : Nat) (x2 : Int32) (x3 : Int32) (S : pm_S) (r : pm_S), F_M_sound_138 N rec31 x0 n x2 x3 S = some r → pmE pG (pm_rel pG sp (d + 3)) mi_M_sound 138 [some (.ref x0), none, some (.int x2), some (.int x3), none, none] [] S (none, r) := by
  intro n
  induction n with
  | zero =>
    intro x2 x3 S r h
    cases h
  | succ n ih =>
    intro x2 x3 S r h
    replace h : B_M_sound_138 N rec31 (F_M_sound_138 N rec31 x0 n) x0 x2 x3 S = some r := h
    have hrec138 := ih
    generalize F_M_sound_138 N rec31 x0 n = rec138 at h hrec138
    unfold B_M_sound_138 at h
    refine pE_jump 2 (pc' := 140) (ls' := [some (.ref x0), none, some (.int x2), some (.int x3), none, none]) (st' := [.ref x0, .int x3]) (fun _ => rfl) ?_
    obtain ⟨oq7, hq7, h⟩ := obind h
    cases oq7 with
    | none => cases h
    | some q7 =>
      try dsimp only at h
      refine pE_gfS rfl rfl hq7 ?_
      refine pE_jump 1 (pc' := 144) (ls' := [some (.ref x0), none, some (.int x2), some (.int x3), none, none]) (st' := [.ref x0, .ref q7, .int x3]) (fun _ => rfl) ?_
      obtain ⟨v9, hv9, h⟩ := obind h
      refine pE_gfI rfl rfl hv9 ?_
      obtain ⟨v10, hv10, h⟩ := obind h
      refine pE_aI rfl rfl hv10 ?_
      refine pE_br (v10 ≤ x3) rfl rfl (fun c45 => ?_) (fun c45 => ?_)
      · rw [if_pos c45] at h
        refine pE_weak [some (.ref x0), none, some (.int x2), none, none, none] ⟨rfl, ⟨rfl, trivial⟩⟩ ?_
        exact f_M_sound_279 sp d N rec31 x0 x2 S hrec31 _ h
      · rw [if_neg c45] at h
        refine pE_jump 1 (pc' := 152) (ls' := [some (.ref x0), none, some (.int x2), some (.int x3), none, none]) (st' := [.ref x0]) (fun _ => rfl) ?_
        obtain ⟨v11, hv11, h⟩ := obind h
        refine pE_gfI rfl rfl hv11 ?_
        refine pE_br (v11 = 0) rfl rfl (fun c44 => ?_) (fun c44 => ?_)
        · rw [if_pos c44] at h
          refine pE_weak [some (.ref x0), none, some (.int x2), none, none, none] ⟨rfl, ⟨rfl, trivial⟩⟩ ?_
          exact f_M_sound_279 sp d N rec31 x0 x2 S hrec31 _ h
        · rw [if_neg c44] at h
          refine pE_jump 2 (pc' := 161) (ls' := [some (.ref x0), none, some (.int x2), some (.int x3), none, none]) (st' := [.ref x0, .int 10]) (fun _ => rfl) ?_
          obtain ⟨v12, hv12, h⟩ := obind h
          refine pE_gfI rfl rfl hv12 ?_
          refine pE_jump 6 (pc' := 171) (ls' := [some (.ref x0), none, some (.int x2), some (.int x3), some (.int ((10 * v12) + x3)), none]) (st' := [.int x3, .ref x0]) (fun _ => rfl) ?_
          obtain ⟨⟨v14, S13⟩, hv14, h⟩ := obind h
          try dsimp only at h
          refine pE_iv (Bs := [.int x3]) (st := []) 1 rfl (Or.inl ⟨rfl, rfl⟩) rfl rfl (Nat.le_of_ble_eq_true rfl) (Nat.le_of_ble_eq_true rfl) (g_M_isSo hv14) (f_M_isSo sp (d + 2) N S x0 x3 _ hv14) ?_
          refine pE_br (v14 = 0) rfl rfl (fun c43 => ?_) (fun c43 => ?_)
          · rw [if_pos c43] at h
            refine pE_weak [some (.ref x0), none, some (.int x2), some (.int x3), none, none] ⟨rfl, ⟨rfl, ⟨rfl, trivial⟩⟩⟩ ?_
            exact f_M_sound_273 sp d N rec31 rec138 x0 x2 x3 S13 hrec31 hrec138 _ h
          · rw [if_neg c43] at h
            refine pE_jump 1 (pc' := 178) (ls' := [some (.ref x0), none, some (.int x2), some (.int x3), some (.int ((10 * v12) + x3)), none]) (st' := [.ref x0]) (fun _ => rfl) ?_
            obtain ⟨oq15, hq15, h⟩ := obind h
            cases oq15 with
            | none => cases h
            | some q15 =>
              try dsimp only at h
              refine pE_gfS rfl rfl hq15 ?_
              refine pE_jump 1 (pc' := 183) (ls' := [some (.ref x0), none, some (.int x2), some (.int x3), some (.int ((10 * v12) + x3)), none]) (st' := [.int ((10 * v12) + x3), .ref q15]) (fun _ => rfl) ?_
              obtain ⟨v16, hv16, h⟩ := obind h
              refine pE_aI rfl rfl hv16 ?_
              refine pE_jump 1 (pc' := 185) (ls' := [some (.ref x0), none, some (.int x2), some (.int x3), some (.int ((10 * v12) + x3)), none]) (st' := [.int 2, .int v16]) (fun _ => rfl) ?_
              refine pE_br (v16 = 2) rfl rfl (fun c42 => ?_) (fun c42 => ?_)
              · rw [if_pos c42] at h
                refine pE_jump 1 (pc' := 192) (ls' := [some (.ref x0), none, some (.int x2), some (.int x3), some (.int ((10 * v12) + x3)), none]) (st' := [.ref x0]) (fun _ => rfl) ?_
                obtain ⟨oq17, hq17, h⟩ := obind h
                cases oq17 with
                | none => cases h
                | some q17 =>
                  try dsimp only at h
                  refine pE_gfS rfl rfl hq17 ?_
                  refine pE_jump 1 (pc' := 197) (ls' := [some (.ref x0), none, some (.int x2), some (.int x3), some (.int ((10 * v12) + x3)), none]) (st' := [.int ((10 * v12) + x3), .ref q17]) (fun _ => rfl) ?_
                  obtain ⟨v18, hv18, h⟩ := obind h
                  refine pE_aI rfl rfl hv18 ?_
                  refine pE_jump 4 (pc' := 204) (ls' := [some (.ref x0), none, some (.int x2), some (.int x3), some (.int ((10 * v12) + x3)), some (.int v18)]) (st' := [.ref x0, .int v18, .ref x0]) (fun _ => rfl) ?_
                  obtain ⟨oq19, hq19, h⟩ := obind h
                  cases oq19 with
                  | none => cases h
                  | some q19 =>
                    try dsimp only at h
                    refine pE_gfS rfl rfl hq19 ?_
                    refine pE_jump 1 (pc' := 209) (ls' := [some (.ref x0), none, some (.int x2), some (.int x3), some (.int ((10 * v12) + x3)), some (.int v18)]) (st' := [.int ((10 * v12) + x3), .ref q19, .int v18, .ref x0]) (fun _ => rfl) ?_
                    obtain ⟨v20, hv20, h⟩ := obind h
                    refine pE_aI rfl rfl hv20 ?_
                    refine pE_jump 3 (pc' := 214) (ls' := [some (.ref x0), none, some (.int x2), some (.int x3), some (.int ((10 * v12) + x3)), some (.int v18)]) (st' := [.ref x0, .int v18, .ref x0, .int v20, .int v18, .ref x0]) (fun _ => rfl) ?_
                    obtain ⟨oq21, hq21, h⟩ := obind h
                    cases oq21 with
                    | none => cases h
                    | some q21 =>
                      try dsimp only at h
                      refine pE_gfS rfl rfl hq21 ?_
                      refine pE_jump 1 (pc' := 219) (ls' := [some (.ref x0), none, some (.int x2), some (.int x3), some (.int ((10 * v12) + x3)), some (.int v18)]) (st' := [.int ((10 * v12) + x3), .ref q21, .int v18, .ref x0, .int v20, .int v18, .ref x0]) (fun _ => rfl) ?_
                      obtain ⟨v22, hv22, h⟩ := obind h
                      refine pE_aI rfl rfl hv22 ?_
                      refine pE_jump 1 (pc' := 221) (ls' := [some (.ref x0), none, some (.int x2), some (.int x3), some (.int ((10 * v12) + x3)), some (.int v18)]) (st' := [.ref x0, .int v22, .int v18, .ref x0, .int v20, .int v18, .ref x0]) (fun _ => rfl) ?_
                      obtain ⟨oq23, hq23, h⟩ := obind h
                      cases oq23 with
                      | none => cases h
                      | some q23 =>
                        try dsimp only at h
                        refine pE_gfS rfl rfl hq23 ?_
                        refine pE_jump 1 (pc' := 226) (ls' := [some (.ref x0), none, some (.int x2), some (.int x3), some (.int ((10 * v12) + x3)), some (.int v18)]) (st' := [.int ((10 * v12) + x3), .ref q23, .int v22, .int v18, .ref x0, .int v20, .int v18, .ref x0]) (fun _ => rfl) ?_
                        obtain ⟨v24, hv24, h⟩ := obind h
                        refine pE_aI rfl rfl hv24 ?_
                        obtain ⟨⟨v26, S25⟩, hv26, h⟩ := obind h
                        try dsimp only at h
                        refine pE_iv (Bs := [.int v18, .int v22, .int v24]) (st := [.int v20, .int v18, .ref x0]) 1 rfl (Or.inl ⟨rfl, rfl⟩) rfl rfl (Nat.le_of_ble_eq_true rfl) (Nat.le_of_ble_eq_true rfl) (g_M_breaksTo hv26) (f_M_breaksTo sp (d + 1) N S13 x0 v18 v22 v24 _ hv26) ?_
                        obtain ⟨⟨v28, S27⟩, hv28, h⟩ := obind h
                        try dsimp only at h
                        refine pE_is (Bs := [.int v18, .int v20, .int v26]) (st := [.ref x0]) rfl rfl rfl (Nat.le_of_ble_eq_true rfl) (Nat.le_of_ble_eq_true rfl) (f_M_node sp (d + 2) N S25 v18 v20 v26 _ hv28) ?_
                        refine pE_jump 2 (pc' := 236) (ls' := [some (.ref x0), none, some (.int x2), some (.int x3), some (.int ((10 * v12) + x3)), some (.int v18)]) (st' := [.ref x0, .int v18, .int v28, .ref x0]) (fun _ => rfl) ?_
                        obtain ⟨oq29, hq29, h⟩ := obind h
                        cases oq29 with
                        | none => cases h
                        | some q29 =>
                          try dsimp only at h
                          refine pE_gfS rfl rfl hq29 ?_
                          refine pE_jump 1 (pc' := 241) (ls' := [some (.ref x0), none, some (.int x2), some (.int x3), some (.int ((10 * v12) + x3)), some (.int v18)]) (st' := [.int ((10 * v12) + x3), .ref q29, .int v18, .int v28, .ref x0]) (fun _ => rfl) ?_
                          obtain ⟨v30, hv30, h⟩ := obind h
                          refine pE_aI rfl rfl hv30 ?_
                          refine pE_jump 3 (pc' := 246) (ls' := [some (.ref x0), none, some (.int x2), some (.int x3), some (.int ((10 * v12) + x3)), some (.int v18)]) (st' := [.ref x0, .int v18, .ref x0, .int v30, .int v18, .int v28, .ref x0]) (fun _ => rfl) ?_
                          obtain ⟨oq31, hq31, h⟩ := obind h
                          cases oq31 with
                          | none => cases h
                          | some q31 =>
                            try dsimp only at h
                            refine pE_gfS rfl rfl hq31 ?_
                            refine pE_jump 1 (pc' := 251) (ls' := [some (.ref x0), none, some (.int x2), some (.int x3), some (.int ((10 * v12) + x3)), some (.int v18)]) (st' := [.int ((10 * v12) + x3), .ref q31, .int v18, .ref x0, .int v30, .int v18, .int v28, .ref x0]) (fun _ => rfl) ?_
                            obtain ⟨v32, hv32, h⟩ := obind h
                            refine pE_aI rfl rfl hv32 ?_
                            refine pE_jump 1 (pc' := 253) (ls' := [some (.ref x0), none, some (.int x2), some (.int x3), some (.int ((10 * v12) + x3)), some (.int v18)]) (st' := [.ref x0, .int v32, .int v18, .ref x0, .int v30, .int v18, .int v28, .ref x0]) (fun _ => rfl) ?_
                            obtain ⟨oq33, hq33, h⟩ := obind h
                            cases oq33 with
                            | none => cases h
                            | some q33 =>
                              try dsimp only at h
                              refine pE_gfS rfl rfl hq33 ?_
                              refine pE_jump 1 (pc' := 258) (ls' := [some (.ref x0), none, some (.int x2), some (.int x3), some (.int ((10 * v12) + x3)), some (.int v18)]) (st' := [.int ((10 * v12) + x3), .ref q33, .int v32, .int v18, .ref x0, .int v30, .int v18, .int v28, .ref x0]) (fun _ => rfl) ?_
                              obtain ⟨v34, hv34, h⟩ := obind h
                              refine pE_aI rfl rfl hv34 ?_
                              obtain ⟨⟨v36, S35⟩, hv36, h⟩ := obind h
                              try dsimp only at h
                              refine pE_iv (Bs := [.int v18, .int v32, .int v34]) (st := [.int v30, .int v18, .int v28, .ref x0]) 1 rfl (Or.inl ⟨rfl, rfl⟩) rfl rfl (Nat.le_of_ble_eq_true rfl) (Nat.le_of_ble_eq_true rfl) (g_M_breaksTo hv36) (f_M_breaksTo sp (d + 1) N S27 x0 v18 v32 v34 _ hv36) ?_
                              obtain ⟨⟨v38, S37⟩, hv38, h⟩ := obind h
                              try dsimp only at h
                              refine pE_is (Bs := [.int v18, .int v30, .int v36]) (st := [.int v28, .ref x0]) rfl rfl rfl (Nat.le_of_ble_eq_true rfl) (Nat.le_of_ble_eq_true rfl) (f_M_node sp (d + 2) N S35 v18 v30 v36 _ hv38) ?_
                              obtain ⟨⟨v40, S39⟩, hv40, h⟩ := obind h
                              try dsimp only at h
                              refine pE_iv (Bs := [.int v28, .int v38]) (st := []) 1 rfl (Or.inl ⟨rfl, rfl⟩) rfl rfl (Nat.le_of_ble_eq_true rfl) (Nat.le_of_ble_eq_true rfl) (g_M_links hv40) (f_M_links sp (d + 2) N S37 x0 v28 v38 _ hv40) ?_
                              refine pE_br (v40 = 0) rfl rfl (fun c41 => ?_) (fun c41 => ?_)
                              · rw [if_pos c41] at h
                                refine pE_weak [some (.ref x0), none, some (.int x2), some (.int x3), none, none] ⟨rfl, ⟨rfl, ⟨rfl, trivial⟩⟩⟩ ?_
                                exact f_M_sound_273 sp d N rec31 rec138 x0 x2 x3 S39 hrec31 hrec138 _ h
                              · rw [if_neg c41] at h
                                refine pE_jump 2 (pc' := 273) (ls' := [some (.ref x0), none, some (.int 1), some (.int x3), some (.int ((10 * v12) + x3)), some (.int v18)]) (st' := []) (fun _ => rfl) ?_
                                refine pE_weak [some (.ref x0), none, some (.int 1), some (.int x3), none, none] ⟨rfl, ⟨rfl, ⟨rfl, trivial⟩⟩⟩ ?_
                                exact f_M_sound_273 sp d N rec31 rec138 x0 1 x3 S39 hrec31 hrec138 _ h
              · rw [if_neg c42] at h
                refine pE_jump 1 (pc' := 273) (ls' := [some (.ref x0), none, some (.int x2), some (.int x3), some (.int ((10 * v12) + x3)), none]) (st' := []) (fun _ => rfl) ?_
                refine pE_weak [some (.ref x0), none, some (.int x2), some (.int x3), none, none] ⟨rfl, ⟨rfl, ⟨rfl, trivial⟩⟩⟩ ?_
                exact f_M_sound_273 sp d N rec31 rec138 x0 x2 x3 S13 hrec31 hrec138 _ h
def F_M_sound_136 (N : Nat) (rec31 : Int32 → pm_S → Option pm_S) (x0 : Nat) (x2 : Int32) (S : pm_S) : Option pm_S :=
    F_M_sound_138 N rec31 x0 N x2 0 S
set_option maxHeartbeats 4000000 in
set_option maxRecDepth 20000 in
theorem f_M_sound_136 (sp : pm_I → List Value → pm_S → pm_O → Prop) (d N : Nat) (rec31 : Int32 → pm_S → Option pm_S) (x0 : Nat) (x2 : Int32) (S : pm_S) (hrec31 : ∀ (y1 : Int32) (U : pm_S) (r : pm_S), rec31 y1 U = some r → pmE pG (pm_rel pG sp (d + 3)) mi_M_sound 31 [some (.ref x0), none, some (.int y1), none, none, none] [] U (none, r)) (r : pm_S) (h : F_M_sound_136 N rec31 x0 x2 S = some r) : pmE pG (pm_rel pG sp (d + 3)) mi_M_sound 136 [some (.ref x0), none, some (.int x2), none, none, none] [] S (none, r) := by
  unfold F_M_sound_136 at h
  refine pE_jump 2 (pc' := 138) (ls' := [some (.ref x0), none, some (.int x2), some (.int 0), none, none]) (st' := []) (fun _ => rfl) ?_
  exact f_M_sound_138 sp d N rec31 x0 hrec31 N x2 0 S _ h
def F_M_sound_130 (N : Nat) (rec31 : Int32 → pm_S → Option pm_S) (rec39 : Int32 → Int32 → pm_S → Option pm_S) (x0 : Nat) (x2 : Int32) (x3 : Int32) (S : pm_S) : Option pm_S :=
    rec39 x2 (x3 + 1) S
set_option maxHeartbeats 4000000 in
set_option maxRecDepth 20000 in
theorem f_M_sound_130 (sp : pm_I → List Value → pm_S → pm_O → Prop) (d N : Nat) (rec31 : Int32 → pm_S → Option pm_S) (rec39 : Int32 → Int32 → pm_S → Option pm_S) (x0 : Nat) (x2 : Int32) (x3 : Int32) (S : pm_S) (hrec31 : ∀ (y1 : Int32) (U : pm_S) (r : pm_S), rec31 y1 U = some r → pmE pG (pm_rel pG sp (d + 3)) mi_M_sound 31 [some (.ref x0), none, some (.int y1), none, none, none] [] U (none, r)) (hrec39 : ∀ (y1 : Int32) (y2 : Int32) (U : pm_S) (r : pm_S), rec39 y1 y2 U = some r → pmE pG (pm_rel pG sp (d + 3)) mi_M_sound 39 [some (.ref x0), none, some (.int y1), some (.int y2), none, none] [] U (none, r)) (r : pm_S) (h : F_M_sound_130 N rec31 rec39 x0 x2 x3 S = some r) : pmE pG (pm_rel pG sp (d + 3)) mi_M_sound 130 [some (.ref x0), none, some (.int x2), some (.int x3), none, none] [] S (none, r) := by
  unfold F_M_sound_130 at h
  refine pE_jump 2 (pc' := 39) (ls' := [some (.ref x0), none, some (.int x2), some (.int (x3 + 1)), none, none]) (st' := []) (fun _ => rfl) ?_
  exact hrec39 x2 (x3 + 1) S _ h
def F_M_sound_124 (N : Nat) (rec31 : Int32 → pm_S → Option pm_S) (rec39 : Int32 → Int32 → pm_S → Option pm_S) (rec55 : Int32 → Int32 → pm_S → Option pm_S) (x0 : Nat) (x2 : Int32) (x3 : Int32) (x4 : Int32) (S : pm_S) : Option pm_S :=
    rec55 x2 (x4 + 1) S
set_option maxHeartbeats 4000000 in
set_option maxRecDepth 20000 in
theorem f_M_sound_124 (sp : pm_I → List Value → pm_S → pm_O → Prop) (d N : Nat) (rec31 : Int32 → pm_S → Option pm_S) (rec39 : Int32 → Int32 → pm_S → Option pm_S) (rec55 : Int32 → Int32 → pm_S → Option pm_S) (x0 : Nat) (x2 : Int32) (x3 : Int32) (x4 : Int32) (S : pm_S) (hrec31 : ∀ (y1 : Int32) (U : pm_S) (r : pm_S), rec31 y1 U = some r → pmE pG (pm_rel pG sp (d + 3)) mi_M_sound 31 [some (.ref x0), none, some (.int y1), none, none, none] [] U (none, r)) (hrec39 : ∀ (y1 : Int32) (y2 : Int32) (U : pm_S) (r : pm_S), rec39 y1 y2 U = some r → pmE pG (pm_rel pG sp (d + 3)) mi_M_sound 39 [some (.ref x0), none, some (.int y1), some (.int y2), none, none] [] U (none, r)) (hrec55 : ∀ (y1 : Int32) (y2 : Int32) (U : pm_S) (r : pm_S), rec55 y1 y2 U = some r → pmE pG (pm_rel pG sp (d + 3)) mi_M_sound 55 [some (.ref x0), none, some (.int y1), some (.int x3), some (.int y2), none] [] U (none, r)) (r : pm_S) (h : F_M_sound_124 N rec31 rec39 rec55 x0 x2 x3 x4 S = some r) : pmE pG (pm_rel pG sp (d + 3)) mi_M_sound 124 [some (.ref x0), none, some (.int x2), some (.int x3), some (.int x4), none] [] S (none, r) := by
  unfold F_M_sound_124 at h
  refine pE_jump 2 (pc' := 55) (ls' := [some (.ref x0), none, some (.int x2), some (.int x3), some (.int (x4 + 1)), none]) (st' := []) (fun _ => rfl) ?_
  exact hrec55 x2 (x4 + 1) S _ h
def B_M_sound_55 (N : Nat) (rec31 : Int32 → pm_S → Option pm_S) (rec39 : Int32 → Int32 → pm_S → Option pm_S) (rec55 : Int32 → Int32 → pm_S → Option pm_S) (x0 : Nat) (x3 : Int32) (x2 : Int32) (x4 : Int32) (S : pm_S) : Option pm_S :=
    (oR S x0 11 10).bind fun oq46 => match oq46 with
    | none => none
    | some q46 =>
    (oI S x0 11 29).bind fun v48 =>
    (aI [0, 6] S q46 ((7 * v48) + x3)).bind fun v49 =>
    if v49 ≤ x4 then
    F_M_sound_130 N rec31 rec39 x0 x2 x3 S
    else
    ((oR S x0 11 26).bind fun oq50 => match oq50 with
    | none => none
    | some q50 =>
    (aI [0, 6] S q50 ((6 * x3) + x4)).bind fun v51 =>
    if v51 = (-1) then
    F_M_sound_124 N rec31 rec39 rec55 x0 x2 x3 x4 S
    else
    ((F_M_farNode N S x0 x3 x4).bind fun (v53, S52) =>
    (F_M_nearNode N S52 x0 (v51 / 6) (v51 - v51 / 6 * 6)).bind fun (v55, S54) =>
    (F_M_links N S54 x0 v53 v55).bind fun (v57, S56) =>
    if v57 = 0 then
    F_M_sound_124 N rec31 rec39 rec55 x0 x2 x3 x4 S56
    else
    F_M_sound_124 N rec31 rec39 rec55 x0 1 x3 x4 S56))
def F_M_sound_55 (N : Nat) (rec31 : Int32 → pm_S → Option pm_S) (rec39 : Int32 → Int32 → pm_S → Option pm_S) (x0 : Nat) (x3 : Int32) : Nat → Int32 → Int32 → pm_S → Option pm_S
  | 0 => fun _ _ _ => none
  | n + 1 => fun x2 x4 S => B_M_sound_55 N rec31 rec39 (F_M_sound_55 N rec31 rec39 x0 x3 n) x0 x3 x2 x4 S
set_option maxHeartbeats 4000000 in
set_option maxRecDepth 20000 in
theorem f_M_sound_55 (sp : pm_I → List Value → pm_S → pm_O → Prop) (d N : Nat) (rec31 : Int32 → pm_S → Option pm_S) (rec39 : Int32 → Int32 → pm_S → Option pm_S) (x0 : Nat) (x3 : Int32) (hrec31 : ∀ (y1 : Int32) (U : pm_S) (r : pm_S), rec31 y1 U = some r → pmE pG (pm_rel pG sp (d + 3)) mi_M_sound 31 [some (.ref x0), none, some (.int y1), none, none, none] [] U (none, r)) (hrec39 : ∀ (y1 : Int32) (y2 : Int32) (U : pm_S) (r : pm_S), rec39 y1 y2 U = some r → pmE pG (pm_rel pG sp (d + 3)) mi_M_sound 39 [some (.ref x0), none, some (.int y1), some (.int y2), none, none] [] U (none, r)) : ∀ (n : Nat) (x2 : Int32) (x4 : Int32) (S : pm_S) (r : pm_S), F_M_sound_55 N rec31 rec39 x0 x3 n x2 x4 S = some r → pmE pG (pm_rel pG sp (d + 3)) mi_M_sound 55 [some (.ref x0), none, some (.int x2), some (.int x3), some (.int x4), none] [] S (none, r) := by
  intro n
  induction n with
  | zero =>
    intro x2 x4 S r h
    cases h
  | succ n ih =>
    intro x2 x4 S r h
    replace h : B_M_sound_55 N rec31 rec39 (F_M_sound_55 N rec31 rec39 x0 x3 n) x0 x3 x2 x4 S = some r := h
    have hrec55 := ih
    generalize F_M_sound_55 N rec31 rec39 x0 x3 n = rec55 at h hrec55
    unfold B_M_sound_55 at h
    refine pE_jump 2 (pc' := 58) (ls' := [some (.ref x0), none, some (.int x2), some (.int x3), some (.int x4), none]) (st' := [.ref x0, .int x4]) (fun _ => rfl) ?_
    obtain ⟨oq46, hq46, h⟩ := obind h
    cases oq46 with
    | none => cases h
    | some q46 =>
      try dsimp only at h
      refine pE_gfS rfl rfl hq46 ?_
      refine pE_jump 2 (pc' := 64) (ls' := [some (.ref x0), none, some (.int x2), some (.int x3), some (.int x4), none]) (st' := [.ref x0, .int 7, .ref q46, .int x4]) (fun _ => rfl) ?_
      obtain ⟨v48, hv48, h⟩ := obind h
      refine pE_gfI rfl rfl hv48 ?_
      refine pE_jump 3 (pc' := 70) (ls' := [some (.ref x0), none, some (.int x2), some (.int x3), some (.int x4), none]) (st' := [.int ((7 * v48) + x3), .ref q46, .int x4]) (fun _ => rfl) ?_
      obtain ⟨v49, hv49, h⟩ := obind h
      refine pE_aI rfl rfl hv49 ?_
      refine pE_br (v49 ≤ x4) rfl rfl (fun c60 => ?_) (fun c60 => ?_)
      · rw [if_pos c60] at h
        refine pE_weak [some (.ref x0), none, some (.int x2), some (.int x3), none, none] ⟨rfl, ⟨rfl, ⟨rfl, trivial⟩⟩⟩ ?_
        exact f_M_sound_130 sp d N rec31 rec39 x0 x2 x3 S hrec31 hrec39 _ h
      · rw [if_neg c60] at h
        refine pE_jump 1 (pc' := 75) (ls' := [some (.ref x0), none, some (.int x2), some (.int x3), some (.int x4), none]) (st' := [.ref x0]) (fun _ => rfl) ?_
        obtain ⟨oq50, hq50, h⟩ := obind h
        cases oq50 with
        | none => cases h
        | some q50 =>
          try dsimp only at h
          refine pE_gfS rfl rfl hq50 ?_
          refine pE_jump 5 (pc' := 85) (ls' := [some (.ref x0), none, some (.int x2), some (.int x3), some (.int x4), none]) (st' := [.int ((6 * x3) + x4), .ref q50]) (fun _ => rfl) ?_
          obtain ⟨v51, hv51, h⟩ := obind h
          refine pE_aI rfl rfl hv51 ?_
          refine pE_jump 3 (pc' := 91) (ls' := [some (.ref x0), none, some (.int x2), some (.int x3), some (.int x4), some (.int v51)]) (st' := [.int (-1), .int v51]) (fun _ => rfl) ?_
          refine pE_br (v51 = (-1)) rfl rfl (fun c59 => ?_) (fun c59 => ?_)
          · rw [if_pos c59] at h
            refine pE_weak [some (.ref x0), none, some (.int x2), some (.int x3), some (.int x4), none] ⟨rfl, ⟨rfl, ⟨rfl, ⟨rfl, trivial⟩⟩⟩⟩ ?_
            exact f_M_sound_124 sp d N rec31 rec39 rec55 x0 x2 x3 x4 S hrec31 hrec39 hrec55 _ h
          · rw [if_neg c59] at h
            refine pE_jump 4 (pc' := 99) (ls' := [some (.ref x0), none, some (.int x2), some (.int x3), some (.int x4), some (.int v51)]) (st' := [.int x4, .int x3, .ref x0, .ref x0]) (fun _ => rfl) ?_
            obtain ⟨⟨v53, S52⟩, hv53, h⟩ := obind h
            try dsimp only at h
            refine pE_iv (Bs := [.int x3, .int x4]) (st := [.ref x0]) 1 rfl (Or.inl ⟨rfl, rfl⟩) rfl rfl (Nat.le_of_ble_eq_true rfl) (Nat.le_of_ble_eq_true rfl) (g_M_farNode hv53) (f_M_farNode sp d N S x0 x3 x4 _ hv53) ?_
            refine pE_jump 3 (pc' := 107) (ls' := [some (.ref x0), none, some (.int x2), some (.int x3), some (.int x4), some (.int v51)]) (st' := [.int 6, .int v51, .ref x0, .int v53, .ref x0]) (fun _ => rfl) ?_
            refine pE_jump 1 (pc' := 108) (ls' := [some (.ref x0), none, some (.int x2), some (.int x3), some (.int x4), some (.int v51)]) (st' := [.int (v51 / 6), .ref x0, .int v53, .ref x0]) (fun _ => rfl) ?_
            refine pE_jump 2 (pc' := 112) (ls' := [some (.ref x0), none, some (.int x2), some (.int x3), some (.int x4), some (.int v51)]) (st' := [.int 6, .int v51, .int (v51 / 6), .ref x0, .int v53, .ref x0]) (fun _ => rfl) ?_
            refine pE_jump 1 (pc' := 113) (ls' := [some (.ref x0), none, some (.int x2), some (.int x3), some (.int x4), some (.int v51)]) (st' := [.int (v51 - v51 / 6 * 6), .int (v51 / 6), .ref x0, .int v53, .ref x0]) (fun _ => rfl) ?_
            obtain ⟨⟨v55, S54⟩, hv55, h⟩ := obind h
            try dsimp only at h
            refine pE_iv (Bs := [.int (v51 / 6), .int (v51 - v51 / 6 * 6)]) (st := [.int v53, .ref x0]) 1 rfl (Or.inl ⟨rfl, rfl⟩) rfl rfl (Nat.le_of_ble_eq_true rfl) (Nat.le_of_ble_eq_true rfl) (g_M_nearNode hv55) (f_M_nearNode sp (d + 1) N S52 x0 (v51 / 6) (v51 - v51 / 6 * 6) _ hv55) ?_
            obtain ⟨⟨v57, S56⟩, hv57, h⟩ := obind h
            try dsimp only at h
            refine pE_iv (Bs := [.int v53, .int v55]) (st := []) 1 rfl (Or.inl ⟨rfl, rfl⟩) rfl rfl (Nat.le_of_ble_eq_true rfl) (Nat.le_of_ble_eq_true rfl) (g_M_links hv57) (f_M_links sp (d + 2) N S54 x0 v53 v55 _ hv57) ?_
            refine pE_br (v57 = 0) rfl rfl (fun c58 => ?_) (fun c58 => ?_)
            · rw [if_pos c58] at h
              refine pE_weak [some (.ref x0), none, some (.int x2), some (.int x3), some (.int x4), none] ⟨rfl, ⟨rfl, ⟨rfl, ⟨rfl, trivial⟩⟩⟩⟩ ?_
              exact f_M_sound_124 sp d N rec31 rec39 rec55 x0 x2 x3 x4 S56 hrec31 hrec39 hrec55 _ h
            · rw [if_neg c58] at h
              refine pE_jump 2 (pc' := 124) (ls' := [some (.ref x0), none, some (.int 1), some (.int x3), some (.int x4), some (.int v51)]) (st' := []) (fun _ => rfl) ?_
              refine pE_weak [some (.ref x0), none, some (.int 1), some (.int x3), some (.int x4), none] ⟨rfl, ⟨rfl, ⟨rfl, ⟨rfl, trivial⟩⟩⟩⟩ ?_
              exact f_M_sound_124 sp d N rec31 rec39 rec55 x0 1 x3 x4 S56 hrec31 hrec39 hrec55 _ h
def B_M_sound_39 (N : Nat) (rec31 : Int32 → pm_S → Option pm_S) (rec39 : Int32 → Int32 → pm_S → Option pm_S) (x0 : Nat) (x2 : Int32) (x3 : Int32) (S : pm_S) : Option pm_S :=
    (oR S x0 11 7).bind fun oq3 => match oq3 with
    | none => none
    | some q3 =>
    (oI S x0 11 29).bind fun v5 =>
    (aI [0, 6] S q3 v5).bind fun v6 =>
    if v6 ≤ x3 then
    F_M_sound_136 N rec31 x0 x2 S
    else
    F_M_sound_55 N rec31 rec39 x0 x3 N x2 0 S
def F_M_sound_39 (N : Nat) (rec31 : Int32 → pm_S → Option pm_S) (x0 : Nat) : Nat → Int32 → Int32 → pm_S → Option pm_S
  | 0 => fun _ _ _ => none
  | n + 1 => fun x2 x3 S => B_M_sound_39 N rec31 (F_M_sound_39 N rec31 x0 n) x0 x2 x3 S
set_option maxHeartbeats 4000000 in
set_option maxRecDepth 20000 in
theorem f_M_sound_39 (sp : pm_I → List Value → pm_S → pm_O → Prop) (d N : Nat) (rec31 : Int32 → pm_S → Option pm_S) (x0 : Nat) (hrec31 : ∀ (y1 : Int32) (U : pm_S) (r : pm_S), rec31 y1 U = some r → pmE pG (pm_rel pG sp (d + 3)) mi_M_sound 31 [some (.ref x0), none, some (.int y1), none, none, none] [] U (none, r)) : ∀ (n : Nat) (x2 : Int32) (x3 : Int32) (S : pm_S) (r : pm_S), F_M_sound_39 N rec31 x0 n x2 x3 S = some r → pmE pG (pm_rel pG sp (d + 3)) mi_M_sound 39 [some (.ref x0), none, some (.int x2), some (.int x3), none, none] [] S (none, r) := by
  intro n
  induction n with
  | zero =>
    intro x2 x3 S r h
    cases h
  | succ n ih =>
    intro x2 x3 S r h
    replace h : B_M_sound_39 N rec31 (F_M_sound_39 N rec31 x0 n) x0 x2 x3 S = some r := h
    have hrec39 := ih
    generalize F_M_sound_39 N rec31 x0 n = rec39 at h hrec39
    unfold B_M_sound_39 at h
    refine pE_jump 2 (pc' := 41) (ls' := [some (.ref x0), none, some (.int x2), some (.int x3), none, none]) (st' := [.ref x0, .int x3]) (fun _ => rfl) ?_
    obtain ⟨oq3, hq3, h⟩ := obind h
    cases oq3 with
    | none => cases h
    | some q3 =>
      try dsimp only at h
      refine pE_gfS rfl rfl hq3 ?_
      refine pE_jump 1 (pc' := 45) (ls' := [some (.ref x0), none, some (.int x2), some (.int x3), none, none]) (st' := [.ref x0, .ref q3, .int x3]) (fun _ => rfl) ?_
      obtain ⟨v5, hv5, h⟩ := obind h
      refine pE_gfI rfl rfl hv5 ?_
      obtain ⟨v6, hv6, h⟩ := obind h
      refine pE_aI rfl rfl hv6 ?_
      refine pE_br (v6 ≤ x3) rfl rfl (fun c61 => ?_) (fun c61 => ?_)
      · rw [if_pos c61] at h
        refine pE_weak [some (.ref x0), none, some (.int x2), none, none, none] ⟨rfl, ⟨rfl, trivial⟩⟩ ?_
        exact f_M_sound_136 sp d N rec31 x0 x2 S hrec31 _ h
      · rw [if_neg c61] at h
        refine pE_jump 2 (pc' := 55) (ls' := [some (.ref x0), none, some (.int x2), some (.int x3), some (.int 0), none]) (st' := []) (fun _ => rfl) ?_
        exact f_M_sound_55 sp d N rec31 rec39 x0 x3 hrec31 hrec39 N x2 0 S _ h
def B_M_sound_31 (N : Nat)  (rec31 : Int32 → pm_S → Option pm_S) (x0 : Nat) (x2 : Int32) (S : pm_S) : Option pm_S :=
    if x2 = 0 then
    F_M_sound_282 N S
    else
    F_M_sound_39 N rec31 x0 N 0 0 S
def F_M_sound_31 (N : Nat)  (x0 : Nat) : Nat → Int32 → pm_S → Option pm_S
  | 0 => fun _ _ => none
  | n + 1 => fun x2 S => B_M_sound_31 N  (F_M_sound_31 N  x0 n) x0 x2 S
set_option maxHeartbeats 4000000 in
set_option maxRecDepth 20000 in
theorem f_M_sound_31 (sp : pm_I → List Value → pm_S → pm_O → Prop) (d N : Nat)  (x0 : Nat)  : ∀ (n : Nat) (x2 : Int32) (S : pm_S) (r : pm_S), F_M_sound_31 N  x0 n x2 S = some r → pmE pG (pm_rel pG sp (d + 3)) mi_M_sound 31 [some (.ref x0), none, some (.int x2), none, none, none] [] S (none, r) := by
  intro n
  induction n with
  | zero =>
    intro x2 S r h
    cases h
  | succ n ih =>
    intro x2 S r h
    replace h : B_M_sound_31 N  (F_M_sound_31 N  x0 n) x0 x2 S = some r := h
    have hrec31 := ih
    generalize F_M_sound_31 N  x0 n = rec31 at h hrec31
    unfold B_M_sound_31 at h
    refine pE_jump 1 (pc' := 32) (ls' := [some (.ref x0), none, some (.int x2), none, none, none]) (st' := [.int x2]) (fun _ => rfl) ?_
    refine pE_br (x2 = 0) rfl rfl (fun c62 => ?_) (fun c62 => ?_)
    · rw [if_pos c62] at h
      refine pE_weak [none, none, none, none, none, none] trivial ?_
      exact f_M_sound_282 sp d N S _ h
    · rw [if_neg c62] at h
      refine pE_jump 4 (pc' := 39) (ls' := [some (.ref x0), none, some (.int 0), some (.int 0), none, none]) (st' := []) (fun _ => rfl) ?_
      exact f_M_sound_39 sp d N rec31 x0 hrec31 N 0 0 S _ h
def F_M_sound_22 (N : Nat)  (x0 : Nat) (x1 : Int32) (S : pm_S) : Option pm_S :=
    (oR S x0 11 35).bind fun oq1 => match oq1 with
    | none => none
    | some q1 =>
    (sI [2, 3] S q1 x1 1).bind fun S2 =>
    F_M_sound_31 N x0 N 1 S2
set_option maxHeartbeats 4000000 in
set_option maxRecDepth 20000 in
theorem f_M_sound_22 (sp : pm_I → List Value → pm_S → pm_O → Prop) (d N : Nat)  (x0 : Nat) (x1 : Int32) (S : pm_S)  (r : pm_S) (h : F_M_sound_22 N  x0 x1 S = some r) : pmE pG (pm_rel pG sp (d + 3)) mi_M_sound 22 [some (.ref x0), some (.int x1), none, none, none, none] [] S (none, r) := by
  unfold F_M_sound_22 at h
  refine pE_jump 1 (pc' := 23) (ls' := [some (.ref x0), some (.int x1), none, none, none, none]) (st' := [.ref x0]) (fun _ => rfl) ?_
  obtain ⟨oq1, hq1, h⟩ := obind h
  cases oq1 with
  | none => cases h
  | some q1 =>
    try dsimp only at h
    refine pE_gfS rfl rfl hq1 ?_
    refine pE_jump 2 (pc' := 28) (ls' := [some (.ref x0), some (.int x1), none, none, none, none]) (st' := [.int 1, .int x1, .ref q1]) (fun _ => rfl) ?_
    obtain ⟨S2, hS2, h⟩ := obind h
    refine pE_sI rfl rfl hS2 ?_
    refine pE_jump 2 (pc' := 31) (ls' := [some (.ref x0), some (.int x1), some (.int 1), none, none, none]) (st' := []) (fun _ => rfl) ?_
    refine pE_weak [some (.ref x0), none, some (.int 1), none, none, none] ⟨rfl, ⟨rfl, trivial⟩⟩ ?_
    exact f_M_sound_31 sp d N x0 N 1 S2 _ h
def B_M_sound_2 (N : Nat)  (rec2 : Int32 → pm_S → Option pm_S) (x0 : Nat) (x1 : Int32) (x2 : Int32) (S : pm_S) : Option pm_S :=
    if 462 ≤ x2 then
    F_M_sound_22 N x0 x1 S
    else
    ((oR S x0 11 35).bind fun oq63 => match oq63 with
    | none => none
    | some q63 =>
    (sI [2, 3] S q63 x2 0).bind fun S64 =>
    rec2 (x2 + 1) S64)
def F_M_sound_2 (N : Nat)  (x0 : Nat) (x1 : Int32) : Nat → Int32 → pm_S → Option pm_S
  | 0 => fun _ _ => none
  | n + 1 => fun x2 S => B_M_sound_2 N  (F_M_sound_2 N  x0 x1 n) x0 x1 x2 S
set_option maxHeartbeats 4000000 in
set_option maxRecDepth 20000 in
theorem f_M_sound_2 (sp : pm_I → List Value → pm_S → pm_O → Prop) (d N : Nat)  (x0 : Nat) (x1 : Int32)  : ∀ (n : Nat) (x2 : Int32) (S : pm_S) (r : pm_S), F_M_sound_2 N  x0 x1 n x2 S = some r → pmE pG (pm_rel pG sp (d + 3)) mi_M_sound 2 [some (.ref x0), some (.int x1), some (.int x2), none, none, none] [] S (none, r) := by
  intro n
  induction n with
  | zero =>
    intro x2 S r h
    cases h
  | succ n ih =>
    intro x2 S r h
    replace h : B_M_sound_2 N  (F_M_sound_2 N  x0 x1 n) x0 x1 x2 S = some r := h
    have hrec2 := ih
    generalize F_M_sound_2 N  x0 x1 n = rec2 at h hrec2
    unfold B_M_sound_2 at h
    refine pE_jump 2 (pc' := 6) (ls' := [some (.ref x0), some (.int x1), some (.int x2), none, none, none]) (st' := [.int 462, .int x2]) (fun _ => rfl) ?_
    refine pE_br (462 ≤ x2) rfl rfl (fun c65 => ?_) (fun c65 => ?_)
    · rw [if_pos c65] at h
      refine pE_weak [some (.ref x0), some (.int x1), none, none, none, none] ⟨rfl, ⟨rfl, trivial⟩⟩ ?_
      exact f_M_sound_22 sp d N x0 x1 S _ h
    · rw [if_neg c65] at h
      refine pE_jump 1 (pc' := 10) (ls' := [some (.ref x0), some (.int x1), some (.int x2), none, none, none]) (st' := [.ref x0]) (fun _ => rfl) ?_
      obtain ⟨oq63, hq63, h⟩ := obind h
      cases oq63 with
      | none => cases h
      | some q63 =>
        try dsimp only at h
        refine pE_gfS rfl rfl hq63 ?_
        refine pE_jump 2 (pc' := 15) (ls' := [some (.ref x0), some (.int x1), some (.int x2), none, none, none]) (st' := [.int 0, .int x2, .ref q63]) (fun _ => rfl) ?_
        obtain ⟨S64, hS64, h⟩ := obind h
        refine pE_sI rfl rfl hS64 ?_
        refine pE_jump 2 (pc' := 2) (ls' := [some (.ref x0), some (.int x1), some (.int (x2 + 1)), none, none, none]) (st' := []) (fun _ => rfl) ?_
        exact hrec2 (x2 + 1) S64 _ h
def F_M_sound (N : Nat) (S : pm_S) (a : Nat) (p0 : Int32) : Option pm_S :=
    if rcv S a 11 = true then
    (F_M_sound_2 N a p0 N 0 S)
    else none
theorem g_M_sound {N : Nat} {S : pm_S} {a : Nat} {p0 : Int32} {r : pm_S} (h : F_M_sound N S a p0 = some r) : rcv S a 11 = true := by
  unfold F_M_sound at h
  by_cases c : rcv S a 11 = true
  · exact c
  · rw [if_neg c] at h; cases h
set_option maxHeartbeats 4000000 in
set_option maxRecDepth 20000 in
theorem f_M_sound (sp : pm_I → List Value → pm_S → pm_O → Prop) (d N : Nat) (S : pm_S) (a : Nat) (p0 : Int32) (r : pm_S) (h : F_M_sound N S a p0 = some r) : pm_rel pG sp (d + 4) mi_M_sound [.ref a, .int p0] S (none, r) := by
  have hg := g_M_sound h
  unfold F_M_sound at h
  rw [if_pos hg] at h
  refine pE_rel (d := d + 3) ?_
  show pmE pG _ mi_M_sound 0 [some (.ref a), some (.int p0), none, none, none, none] [] S _
  refine pE_jump 2 (pc' := 2) (ls' := [some (.ref a), some (.int p0), some (.int 0), none, none, none]) (st' := []) (fun _ => rfl) ?_
  exact f_M_sound_2 sp d N a p0 N 0 S _ h
def F_M_heardAt_74 (N : Nat)  (x6 : Int32) (S : pm_S) : Option (Int32 × pm_S) :=
    some (x6, S)
set_option maxHeartbeats 4000000 in
set_option maxRecDepth 20000 in
theorem f_M_heardAt_74 (sp : pm_I → List Value → pm_S → pm_O → Prop) (d N : Nat)  (x6 : Int32) (S : pm_S)  (r : (Int32 × pm_S)) (h : F_M_heardAt_74 N  x6 S = some r) : pmE pG (pm_rel pG sp (d + 4)) mi_M_heardAt 74 [none, none, none, none, none, none, some (.int x6), none] [] S (some (.int r.1), r.2) := by
  unfold F_M_heardAt_74 at h
  refine pE_jump 1 (pc' := 76) (ls' := [none, none, none, none, none, none, some (.int x6), none]) (st' := [.int x6]) (fun _ => rfl) ?_
  cases h
  exact pE_ret rfl rfl rfl
def F_M_heardAt_65 (N : Nat) (rec17 : Int32 → Int32 → pm_S → Option (Int32 × pm_S)) (x0 : Nat) (x4 : Int32) (x5 : Int32) (x7 : Int32) (t0 : Int32) (t1 : Int32) (S : pm_S) : Option (Int32 × pm_S) :=
    rec17 (t1 ||| t0) (x7 + 1) S
set_option maxHeartbeats 4000000 in
set_option maxRecDepth 20000 in
theorem f_M_heardAt_65 (sp : pm_I → List Value → pm_S → pm_O → Prop) (d N : Nat) (rec17 : Int32 → Int32 → pm_S → Option (Int32 × pm_S)) (x0 : Nat) (x4 : Int32) (x5 : Int32) (x7 : Int32) (t0 : Int32) (t1 : Int32) (S : pm_S) (hrec17 : ∀ (y1 : Int32) (y2 : Int32) (U : pm_S) (r : (Int32 × pm_S)), rec17 y1 y2 U = some r → pmE pG (pm_rel pG sp (d + 4)) mi_M_heardAt 17 [some (.ref x0), none, none, none, some (.int x4), some (.int x5), some (.int y1), some (.int y2)] [] U (some (.int r.1), r.2)) (r : (Int32 × pm_S)) (h : F_M_heardAt_65 N rec17 x0 x4 x5 x7 t0 t1 S = some r) : pmE pG (pm_rel pG sp (d + 4)) mi_M_heardAt 65 [some (.ref x0), none, none, none, some (.int x4), some (.int x5), none, some (.int x7)] [.int t0, .int t1] S (some (.int r.1), r.2) := by
  unfold F_M_heardAt_65 at h
  refine pE_jump 4 (pc' := 17) (ls' := [some (.ref x0), none, none, none, some (.int x4), some (.int x5), some (.int (t1 ||| t0)), some (.int (x7 + 1))]) (st' := []) (fun _ => rfl) ?_
  exact hrec17 (t1 ||| t0) (x7 + 1) S _ h
def B_M_heardAt_17 (N : Nat)  (rec17 : Int32 → Int32 → pm_S → Option (Int32 × pm_S)) (x0 : Nat) (x4 : Int32) (x5 : Int32) (x6 : Int32) (x7 : Int32) (S : pm_S) : Option (Int32 × pm_S) :=
    (oR S x0 11 10).bind fun oq4 => match oq4 with
    | none => none
    | some q4 =>
    (oI S x0 11 29).bind fun v6 =>
    (aI [0, 6] S q4 ((7 * v6) + x4)).bind fun v7 =>
    if v7 ≤ x7 then
    F_M_heardAt_74 N x6 S
    else
    ((oR S x0 11 35).bind fun oq8 => match oq8 with
    | none => none
    | some q8 =>
    (F_M_nodeAt N S x0 x4 x7 x5).bind fun (v12, S11) =>
    (aI [2, 3] S11 q8 v12).bind fun v13 =>
    if v13 = 0 then
    F_M_heardAt_65 N rec17 x0 x4 x5 x7 0 x6 S11
    else
    F_M_heardAt_65 N rec17 x0 x4 x5 x7 (1 <<< (x7 &&& 31)) x6 S11)
def F_M_heardAt_17 (N : Nat)  (x0 : Nat) (x4 : Int32) (x5 : Int32) : Nat → Int32 → Int32 → pm_S → Option (Int32 × pm_S)
  | 0 => fun _ _ _ => none
  | n + 1 => fun x6 x7 S => B_M_heardAt_17 N  (F_M_heardAt_17 N  x0 x4 x5 n) x0 x4 x5 x6 x7 S
set_option maxHeartbeats 4000000 in
set_option maxRecDepth 20000 in
theorem f_M_heardAt_17 (sp : pm_I → List Value → pm_S → pm_O → Prop) (d N : Nat)  (x0 : Nat) (x4 : Int32) (x5 : Int32)  : ∀ (n : Nat) (x6 : Int32) (x7 : Int32) (S : pm_S) (r : (Int32 × pm_S)), F_M_heardAt_17 N  x0 x4 x5 n x6 x7 S = some r → pmE pG (pm_rel pG sp (d + 4)) mi_M_heardAt 17 [some (.ref x0), none, none, none, some (.int x4), some (.int x5), some (.int x6), some (.int x7)] [] S (some (.int r.1), r.2) := by
  intro n
  induction n with
  | zero =>
    intro x6 x7 S r h
    cases h
  | succ n ih =>
    intro x6 x7 S r h
    replace h : B_M_heardAt_17 N  (F_M_heardAt_17 N  x0 x4 x5 n) x0 x4 x5 x6 x7 S = some r := h
    have hrec17 := ih
    generalize F_M_heardAt_17 N  x0 x4 x5 n = rec17 at h hrec17
    unfold B_M_heardAt_17 at h
    refine pE_jump 2 (pc' := 20) (ls' := [some (.ref x0), none, none, none, some (.int x4), some (.int x5), some (.int x6), some (.int x7)]) (st' := [.ref x0, .int x7]) (fun _ => rfl) ?_
    obtain ⟨oq4, hq4, h⟩ := obind h
    cases oq4 with
    | none => cases h
    | some q4 =>
      try dsimp only at h
      refine pE_gfS rfl rfl hq4 ?_
      refine pE_jump 2 (pc' := 26) (ls' := [some (.ref x0), none, none, none, some (.int x4), some (.int x5), some (.int x6), some (.int x7)]) (st' := [.ref x0, .int 7, .ref q4, .int x7]) (fun _ => rfl) ?_
      obtain ⟨v6, hv6, h⟩ := obind h
      refine pE_gfI rfl rfl hv6 ?_
      refine pE_jump 3 (pc' := 33) (ls' := [some (.ref x0), none, none, none, some (.int x4), some (.int x5), some (.int x6), some (.int x7)]) (st' := [.int ((7 * v6) + x4), .ref q4, .int x7]) (fun _ => rfl) ?_
      obtain ⟨v7, hv7, h⟩ := obind h
      refine pE_aI rfl rfl hv7 ?_
      refine pE_br (v7 ≤ x7) rfl rfl (fun c15 => ?_) (fun c15 => ?_)
      · rw [if_pos c15] at h
        refine pE_weak [none, none, none, none, none, none, some (.int x6), none] ⟨rfl, trivial⟩ ?_
        exact f_M_heardAt_74 sp d N x6 S _ h
      · rw [if_neg c15] at h
        refine pE_jump 2 (pc' := 40) (ls' := [some (.ref x0), none, none, none, some (.int x4), some (.int x5), some (.int x6), some (.int x7)]) (st' := [.ref x0, .int x6]) (fun _ => rfl) ?_
        obtain ⟨oq8, hq8, h⟩ := obind h
        cases oq8 with
        | none => cases h
        | some q8 =>
          try dsimp only at h
          refine pE_gfS rfl rfl hq8 ?_
          refine pE_jump 4 (pc' := 50) (ls' := [some (.ref x0), none, none, none, some (.int x4), some (.int x5), some (.int x6), some (.int x7)]) (st' := [.int x5, .int x7, .int x4, .ref x0, .ref q8, .int x6]) (fun _ => rfl) ?_
          obtain ⟨⟨v12, S11⟩, hv12, h⟩ := obind h
          try dsimp only at h
          refine pE_iv (Bs := [.int x4, .int x7, .int x5]) (st := [.ref q8, .int x6]) 1 rfl (Or.inl ⟨rfl, rfl⟩) rfl rfl (Nat.le_of_ble_eq_true rfl) (Nat.le_of_ble_eq_true rfl) (g_M_nodeAt hv12) (f_M_nodeAt sp d N S x0 x4 x7 x5 _ hv12) ?_
          obtain ⟨v13, hv13, h⟩ := obind h
          refine pE_aI rfl rfl hv13 ?_
          refine pE_br (v13 = 0) rfl rfl (fun c14 => ?_) (fun c14 => ?_)
          · rw [if_pos c14] at h
            refine pE_jump 1 (pc' := 65) (ls' := [some (.ref x0), none, none, none, some (.int x4), some (.int x5), some (.int x6), some (.int x7)]) (st' := [.int 0, .int x6]) (fun _ => rfl) ?_
            refine pE_weak [some (.ref x0), none, none, none, some (.int x4), some (.int x5), none, some (.int x7)] ⟨rfl, ⟨rfl, ⟨rfl, ⟨rfl, trivial⟩⟩⟩⟩ ?_
            exact f_M_heardAt_65 sp d N rec17 x0 x4 x5 x7 0 x6 S11 hrec17 _ h
          · rw [if_neg c14] at h
            refine pE_jump 4 (pc' := 65) (ls' := [some (.ref x0), none, none, none, some (.int x4), some (.int x5), some (.int x6), some (.int x7)]) (st' := [.int (1 <<< (x7 &&& 31)), .int x6]) (fun _ => rfl) ?_
            refine pE_weak [some (.ref x0), none, none, none, some (.int x4), some (.int x5), none, some (.int x7)] ⟨rfl, ⟨rfl, ⟨rfl, ⟨rfl, trivial⟩⟩⟩⟩ ?_
            exact f_M_heardAt_65 sp d N rec17 x0 x4 x5 x7 (1 <<< (x7 &&& 31)) x6 S11 hrec17 _ h
def F_M_heardAt (N : Nat) (S : pm_S) (a : Nat) (p0 : Int32) (p1 : Int32) (p2 : Int32) (p3 : Int32) (p4 : Int32) : Option (Int32 × pm_S) :=
    if rcv S a 11 = true then
    ((F_M_nodeAt N S a p0 p1 p2).bind fun (v2, S1) =>
    (F_M_sound N S1 a v2).bind fun S3 =>
    F_M_heardAt_17 N a p3 p4 N 0 0 S3)
    else none
theorem g_M_heardAt {N : Nat} {S : pm_S} {a : Nat} {p0 : Int32} {p1 : Int32} {p2 : Int32} {p3 : Int32} {p4 : Int32} {r : (Int32 × pm_S)} (h : F_M_heardAt N S a p0 p1 p2 p3 p4 = some r) : rcv S a 11 = true := by
  unfold F_M_heardAt at h
  by_cases c : rcv S a 11 = true
  · exact c
  · rw [if_neg c] at h; cases h
set_option maxHeartbeats 4000000 in
set_option maxRecDepth 20000 in
theorem f_M_heardAt (sp : pm_I → List Value → pm_S → pm_O → Prop) (d N : Nat) (S : pm_S) (a : Nat) (p0 : Int32) (p1 : Int32) (p2 : Int32) (p3 : Int32) (p4 : Int32) (r : (Int32 × pm_S)) (h : F_M_heardAt N S a p0 p1 p2 p3 p4 = some r) : pm_rel pG sp (d + 5) mi_M_heardAt [.ref a, .int p0, .int p1, .int p2, .int p3, .int p4] S (some (.int r.1), r.2) := by
  have hg := g_M_heardAt h
  unfold F_M_heardAt at h
  rw [if_pos hg] at h
  refine pE_rel (d := d + 4) ?_
  show pmE pG _ mi_M_heardAt 0 [some (.ref a), some (.int p0), some (.int p1), some (.int p2), some (.int p3), some (.int p4), none, none] [] S _
  refine pE_jump 5 (pc' := 5) (ls' := [some (.ref a), some (.int p0), some (.int p1), some (.int p2), some (.int p3), some (.int p4), none, none]) (st' := [.int p2, .int p1, .int p0, .ref a, .ref a]) (fun _ => rfl) ?_
  obtain ⟨⟨v2, S1⟩, hv2, h⟩ := obind h
  try dsimp only at h
  refine pE_iv (Bs := [.int p0, .int p1, .int p2]) (st := [.ref a]) 1 rfl (Or.inl ⟨rfl, rfl⟩) rfl rfl (Nat.le_of_ble_eq_true rfl) (Nat.le_of_ble_eq_true rfl) (g_M_nodeAt hv2) (f_M_nodeAt sp d N S a p0 p1 p2 _ hv2) ?_
  obtain ⟨S3, hS3, h⟩ := obind h
  refine pE_iv (Bs := [.int v2]) (st := []) 1 rfl (Or.inl ⟨rfl, rfl⟩) rfl rfl (Nat.le_of_ble_eq_true rfl) (Nat.le_of_ble_eq_true rfl) (g_M_sound hS3) (f_M_sound sp d N S1 a v2 _ hS3) ?_
  refine pE_jump 4 (pc' := 17) (ls' := [some (.ref a), some (.int p0), some (.int p1), some (.int p2), some (.int p3), some (.int p4), some (.int 0), some (.int 0)]) (st' := []) (fun _ => rfl) ?_
  refine pE_weak [some (.ref a), none, none, none, some (.int p3), some (.int p4), some (.int 0), some (.int 0)] ⟨rfl, ⟨rfl, ⟨rfl, ⟨rfl, ⟨rfl, trivial⟩⟩⟩⟩⟩ ?_
  exact f_M_heardAt_17 sp d N a p3 p4 N 0 0 S3 _ h
