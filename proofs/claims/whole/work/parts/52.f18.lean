def F_M_firstBreak_72 (N : Nat)   (S : pm_S) : Option (Int32 × pm_S) :=
    some ((-1), S)
set_option maxHeartbeats 4000000 in
set_option maxRecDepth 20000 in
theorem f_M_firstBreak_72 (sp : pm_I → List Value → pm_S → pm_O → Prop) (d N : Nat)   (S : pm_S)  (r : (Int32 × pm_S)) (h : F_M_firstBreak_72 N   S = some r) : pmE pG (pm_rel pG sp (d + 2)) mi_M_firstBreak 72 [none, none, none, none, none, none] [] S (some (.int r.1), r.2) := by
  unfold F_M_firstBreak_72 at h
  refine pE_jump 1 (pc' := 73) (ls' := [none, none, none, none, none, none]) (st' := [.int (-1)]) (fun _ => rfl) ?_
  cases h
  exact pE_ret rfl rfl rfl
def F_M_firstBreak_63 (N : Nat)  (x5 : Int32) (S : pm_S) : Option (Int32 × pm_S) :=
    some (x5, S)
set_option maxHeartbeats 4000000 in
set_option maxRecDepth 20000 in
theorem f_M_firstBreak_63 (sp : pm_I → List Value → pm_S → pm_O → Prop) (d N : Nat)  (x5 : Int32) (S : pm_S)  (r : (Int32 × pm_S)) (h : F_M_firstBreak_63 N  x5 S = some r) : pmE pG (pm_rel pG sp (d + 2)) mi_M_firstBreak 63 [none, none, none, none, none, some (.int x5)] [] S (some (.int r.1), r.2) := by
  unfold F_M_firstBreak_63 at h
  refine pE_jump 1 (pc' := 65) (ls' := [none, none, none, none, none, some (.int x5)]) (st' := [.int x5]) (fun _ => rfl) ?_
  cases h
  exact pE_ret rfl rfl rfl
def F_M_firstBreak_59 (N : Nat) (rec3 : Int32 → pm_S → Option (Int32 × pm_S)) (x0 : Nat) (x1 : Int32) (x2 : Int32) (x3 : Int32) (x4 : Int32) (x5 : Int32) (t0 : Int32) (t1 : Int32) (S : pm_S) : Option (Int32 × pm_S) :=
    if (t1 - t0) ≤ 0 then
    rec3 (x4 + 1) S
    else
    F_M_firstBreak_63 N x5 S
set_option maxHeartbeats 4000000 in
set_option maxRecDepth 20000 in
theorem f_M_firstBreak_59 (sp : pm_I → List Value → pm_S → pm_O → Prop) (d N : Nat) (rec3 : Int32 → pm_S → Option (Int32 × pm_S)) (x0 : Nat) (x1 : Int32) (x2 : Int32) (x3 : Int32) (x4 : Int32) (x5 : Int32) (t0 : Int32) (t1 : Int32) (S : pm_S) (hrec3 : ∀ (y1 : Int32) (U : pm_S) (r : (Int32 × pm_S)), rec3 y1 U = some r → pmE pG (pm_rel pG sp (d + 2)) mi_M_firstBreak 3 [some (.ref x0), some (.int x1), some (.int x2), some (.int x3), some (.int y1), none] [] U (some (.int r.1), r.2)) (r : (Int32 × pm_S)) (h : F_M_firstBreak_59 N rec3 x0 x1 x2 x3 x4 x5 t0 t1 S = some r) : pmE pG (pm_rel pG sp (d + 2)) mi_M_firstBreak 59 [some (.ref x0), some (.int x1), some (.int x2), some (.int x3), some (.int x4), some (.int x5)] [.int t0, .int t1] S (some (.int r.1), r.2) := by
  unfold F_M_firstBreak_59 at h
  refine pE_jump 1 (pc' := 60) (ls' := [some (.ref x0), some (.int x1), some (.int x2), some (.int x3), some (.int x4), some (.int x5)]) (st' := [.int (t1 - t0)]) (fun _ => rfl) ?_
  refine pE_br ((t1 - t0) ≤ 0) rfl rfl (fun c5 => ?_) (fun c5 => ?_)
  · rw [if_pos c5] at h
    refine pE_jump 2 (pc' := 3) (ls' := [some (.ref x0), some (.int x1), some (.int x2), some (.int x3), some (.int (x4 + 1)), some (.int x5)]) (st' := []) (fun _ => rfl) ?_
    refine pE_weak [some (.ref x0), some (.int x1), some (.int x2), some (.int x3), some (.int (x4 + 1)), none] ⟨rfl, ⟨rfl, ⟨rfl, ⟨rfl, ⟨rfl, trivial⟩⟩⟩⟩⟩ ?_
    exact hrec3 (x4 + 1) S _ h
  · rw [if_neg c5] at h
    refine pE_weak [none, none, none, none, none, some (.int x5)] ⟨rfl, trivial⟩ ?_
    exact f_M_firstBreak_63 sp d N x5 S _ h
def F_M_firstBreak_30 (N : Nat) (rec3 : Int32 → pm_S → Option (Int32 × pm_S)) (x0 : Nat) (x1 : Int32) (x2 : Int32) (x3 : Int32) (x4 : Int32) (t0 : Int32) (S : pm_S) : Option (Int32 × pm_S) :=
    (F_M_breaksTo N S x0 x1 x2 t0).bind fun (v4, S3) =>
    if t0 = 0 then
    F_M_firstBreak_59 N rec3 x0 x1 x2 x3 x4 t0 0 v4 S3
    else
    ((F_M_breaksTo N S3 x0 x1 x2 (t0 - 1)).bind fun (v7, S6) =>
    F_M_firstBreak_59 N rec3 x0 x1 x2 x3 x4 t0 v7 v4 S6)
set_option maxHeartbeats 4000000 in
set_option maxRecDepth 20000 in
theorem f_M_firstBreak_30 (sp : pm_I → List Value → pm_S → pm_O → Prop) (d N : Nat) (rec3 : Int32 → pm_S → Option (Int32 × pm_S)) (x0 : Nat) (x1 : Int32) (x2 : Int32) (x3 : Int32) (x4 : Int32) (t0 : Int32) (S : pm_S) (hrec3 : ∀ (y1 : Int32) (U : pm_S) (r : (Int32 × pm_S)), rec3 y1 U = some r → pmE pG (pm_rel pG sp (d + 2)) mi_M_firstBreak 3 [some (.ref x0), some (.int x1), some (.int x2), some (.int x3), some (.int y1), none] [] U (some (.int r.1), r.2)) (r : (Int32 × pm_S)) (h : F_M_firstBreak_30 N rec3 x0 x1 x2 x3 x4 t0 S = some r) : pmE pG (pm_rel pG sp (d + 2)) mi_M_firstBreak 30 [some (.ref x0), some (.int x1), some (.int x2), some (.int x3), some (.int x4), none] [.int t0] S (some (.int r.1), r.2) := by
  unfold F_M_firstBreak_30 at h
  refine pE_jump 5 (pc' := 37) (ls' := [some (.ref x0), some (.int x1), some (.int x2), some (.int x3), some (.int x4), some (.int t0)]) (st' := [.int t0, .int x2, .int x1, .ref x0]) (fun _ => rfl) ?_
  obtain ⟨⟨v4, S3⟩, hv4, h⟩ := obind h
  try dsimp only at h
  refine pE_iv (Bs := [.int x1, .int x2, .int t0]) (st := []) 1 rfl (Or.inl ⟨rfl, rfl⟩) rfl rfl (Nat.le_of_ble_eq_true rfl) (Nat.le_of_ble_eq_true rfl) (g_M_breaksTo hv4) (f_M_breaksTo sp d N S x0 x1 x2 t0 _ hv4) ?_
  refine pE_jump 1 (pc' := 42) (ls' := [some (.ref x0), some (.int x1), some (.int x2), some (.int x3), some (.int x4), some (.int t0)]) (st' := [.int t0, .int v4]) (fun _ => rfl) ?_
  refine pE_br (¬ t0 = 0) rfl rfl (fun c8 => ?_) (fun c8 => ?_)
  · rw [if_neg c8] at h
    refine pE_jump 6 (pc' := 56) (ls' := [some (.ref x0), some (.int x1), some (.int x2), some (.int x3), some (.int x4), some (.int t0)]) (st' := [.int (t0 - 1), .int x2, .int x1, .ref x0, .int v4]) (fun _ => rfl) ?_
    obtain ⟨⟨v7, S6⟩, hv7, h⟩ := obind h
    try dsimp only at h
    refine pE_iv (Bs := [.int x1, .int x2, .int (t0 - 1)]) (st := [.int v4]) 1 rfl (Or.inl ⟨rfl, rfl⟩) rfl rfl (Nat.le_of_ble_eq_true rfl) (Nat.le_of_ble_eq_true rfl) (g_M_breaksTo hv7) (f_M_breaksTo sp d N S3 x0 x1 x2 (t0 - 1) _ hv7) ?_
    exact f_M_firstBreak_59 sp d N rec3 x0 x1 x2 x3 x4 t0 v7 v4 S6 hrec3 _ h
  · have c8 := Decidable.not_not.mp c8
    rw [if_pos c8] at h
    refine pE_jump 2 (pc' := 59) (ls' := [some (.ref x0), some (.int x1), some (.int x2), some (.int x3), some (.int x4), some (.int t0)]) (st' := [.int 0, .int v4]) (fun _ => rfl) ?_
    exact f_M_firstBreak_59 sp d N rec3 x0 x1 x2 x3 x4 t0 0 v4 S3 hrec3 _ h
def B_M_firstBreak_3 (N : Nat)  (rec3 : Int32 → pm_S → Option (Int32 × pm_S)) (x0 : Nat) (x1 : Int32) (x2 : Int32) (x3 : Int32) (x4 : Int32) (S : pm_S) : Option (Int32 × pm_S) :=
    (F_M_longOf N S x0 x1).bind fun (v2, S1) =>
    if v2 < x4 then
    F_M_firstBreak_72 N S1
    else
    (if x3 = 0 then
    F_M_firstBreak_30 N rec3 x0 x1 x2 x3 x4 x4 S1
    else
    ((F_M_longOf N S1 x0 x1).bind fun (v10, S9) =>
    F_M_firstBreak_30 N rec3 x0 x1 x2 x3 x4 (v10 - x4) S9))
def F_M_firstBreak_3 (N : Nat)  (x0 : Nat) (x1 : Int32) (x2 : Int32) (x3 : Int32) : Nat → Int32 → pm_S → Option (Int32 × pm_S)
  | 0 => fun _ _ => none
  | n + 1 => fun x4 S => B_M_firstBreak_3 N  (F_M_firstBreak_3 N  x0 x1 x2 x3 n) x0 x1 x2 x3 x4 S
set_option maxHeartbeats 4000000 in
set_option maxRecDepth 20000 in
theorem f_M_firstBreak_3 (sp : pm_I → List Value → pm_S → pm_O → Prop) (d N : Nat)  (x0 : Nat) (x1 : Int32) (x2 : Int32) (x3 : Int32)  : ∀ (n : Nat) (x4 : Int32) (S : pm_S) (r : (Int32 × pm_S)), F_M_firstBreak_3 N  x0 x1 x2 x3 n x4 S = some r → pmE pG (pm_rel pG sp (d + 2)) mi_M_firstBreak 3 [some (.ref x0), some (.int x1), some (.int x2), some (.int x3), some (.int x4), none] [] S (some (.int r.1), r.2) := by
  intro n
  induction n with
  | zero =>
    intro x4 S r h
    cases h
  | succ n ih =>
    intro x4 S r h
    replace h : B_M_firstBreak_3 N  (F_M_firstBreak_3 N  x0 x1 x2 x3 n) x0 x1 x2 x3 x4 S = some r := h
    have hrec3 := ih
    generalize F_M_firstBreak_3 N  x0 x1 x2 x3 n = rec3 at h hrec3
    unfold B_M_firstBreak_3 at h
    refine pE_jump 3 (pc' := 7) (ls' := [some (.ref x0), some (.int x1), some (.int x2), some (.int x3), some (.int x4), none]) (st' := [.int x1, .ref x0, .int x4]) (fun _ => rfl) ?_
    obtain ⟨⟨v2, S1⟩, hv2, h⟩ := obind h
    try dsimp only at h
    refine pE_iv (Bs := [.int x1]) (st := [.int x4]) 1 rfl (Or.inl ⟨rfl, rfl⟩) rfl rfl (Nat.le_of_ble_eq_true rfl) (Nat.le_of_ble_eq_true rfl) (g_M_longOf hv2) (f_M_longOf sp (d + 1) N S x0 x1 _ hv2) ?_
    refine pE_br (v2 < x4) rfl rfl (fun c12 => ?_) (fun c12 => ?_)
    · rw [if_pos c12] at h
      refine pE_weak [none, none, none, none, none, none] trivial ?_
      exact f_M_firstBreak_72 sp d N S1 _ h
    · rw [if_neg c12] at h
      refine pE_jump 1 (pc' := 14) (ls' := [some (.ref x0), some (.int x1), some (.int x2), some (.int x3), some (.int x4), none]) (st' := [.int x3]) (fun _ => rfl) ?_
      refine pE_br (¬ x3 = 0) rfl rfl (fun c11 => ?_) (fun c11 => ?_)
      · rw [if_neg c11] at h
        refine pE_jump 2 (pc' := 24) (ls' := [some (.ref x0), some (.int x1), some (.int x2), some (.int x3), some (.int x4), none]) (st' := [.int x1, .ref x0]) (fun _ => rfl) ?_
        obtain ⟨⟨v10, S9⟩, hv10, h⟩ := obind h
        try dsimp only at h
        refine pE_iv (Bs := [.int x1]) (st := []) 1 rfl (Or.inl ⟨rfl, rfl⟩) rfl rfl (Nat.le_of_ble_eq_true rfl) (Nat.le_of_ble_eq_true rfl) (g_M_longOf hv10) (f_M_longOf sp (d + 1) N S1 x0 x1 _ hv10) ?_
        refine pE_jump 2 (pc' := 30) (ls' := [some (.ref x0), some (.int x1), some (.int x2), some (.int x3), some (.int x4), none]) (st' := [.int (v10 - x4)]) (fun _ => rfl) ?_
        exact f_M_firstBreak_30 sp d N rec3 x0 x1 x2 x3 x4 (v10 - x4) S9 hrec3 _ h
      · have c11 := Decidable.not_not.mp c11
        rw [if_pos c11] at h
        refine pE_jump 2 (pc' := 30) (ls' := [some (.ref x0), some (.int x1), some (.int x2), some (.int x3), some (.int x4), none]) (st' := [.int x4]) (fun _ => rfl) ?_
        exact f_M_firstBreak_30 sp d N rec3 x0 x1 x2 x3 x4 x4 S1 hrec3 _ h
def F_M_firstBreak (N : Nat) (S : pm_S) (a : Nat) (p0 : Int32) (p1 : Int32) (p2 : Int32) : Option (Int32 × pm_S) :=
    if rcv S a 11 = true then
    (F_M_firstBreak_3 N a p0 p1 p2 N 0 S)
    else none
theorem g_M_firstBreak {N : Nat} {S : pm_S} {a : Nat} {p0 : Int32} {p1 : Int32} {p2 : Int32} {r : (Int32 × pm_S)} (h : F_M_firstBreak N S a p0 p1 p2 = some r) : rcv S a 11 = true := by
  unfold F_M_firstBreak at h
  by_cases c : rcv S a 11 = true
  · exact c
  · rw [if_neg c] at h; cases h
set_option maxHeartbeats 4000000 in
set_option maxRecDepth 20000 in
theorem f_M_firstBreak (sp : pm_I → List Value → pm_S → pm_O → Prop) (d N : Nat) (S : pm_S) (a : Nat) (p0 : Int32) (p1 : Int32) (p2 : Int32) (r : (Int32 × pm_S)) (h : F_M_firstBreak N S a p0 p1 p2 = some r) : pm_rel pG sp (d + 3) mi_M_firstBreak [.ref a, .int p0, .int p1, .int p2] S (some (.int r.1), r.2) := by
  have hg := g_M_firstBreak h
  unfold F_M_firstBreak at h
  rw [if_pos hg] at h
  refine pE_rel (d := d + 2) ?_
  show pmE pG _ mi_M_firstBreak 0 [some (.ref a), some (.int p0), some (.int p1), some (.int p2), none, none] [] S _
  refine pE_jump 2 (pc' := 3) (ls' := [some (.ref a), some (.int p0), some (.int p1), some (.int p2), some (.int 0), none]) (st' := []) (fun _ => rfl) ?_
  exact f_M_firstBreak_3 sp d N a p0 p1 p2 N 0 S _ h
def F_M_joinedAhead_31 (N : Nat)   (S : pm_S) : Option (Int32 × pm_S) :=
    some ((-1), S)
set_option maxHeartbeats 4000000 in
set_option maxRecDepth 20000 in
theorem f_M_joinedAhead_31 (sp : pm_I → List Value → pm_S → pm_O → Prop) (d N : Nat)   (S : pm_S)  (r : (Int32 × pm_S)) (h : F_M_joinedAhead_31 N   S = some r) : pmE pG (pm_rel pG sp (d + 0)) mi_M_joinedAhead 31 [none, none, none, none] [] S (some (.int r.1), r.2) := by
  unfold F_M_joinedAhead_31 at h
  refine pE_jump 1 (pc' := 32) (ls' := [none, none, none, none]) (st' := [.int (-1)]) (fun _ => rfl) ?_
  cases h
  exact pE_ret rfl rfl rfl
def F_M_joinedAhead_23 (N : Nat)  (x3 : Int32) (S : pm_S) : Option (Int32 × pm_S) :=
    some (x3, S)
set_option maxHeartbeats 4000000 in
set_option maxRecDepth 20000 in
theorem f_M_joinedAhead_23 (sp : pm_I → List Value → pm_S → pm_O → Prop) (d N : Nat)  (x3 : Int32) (S : pm_S)  (r : (Int32 × pm_S)) (h : F_M_joinedAhead_23 N  x3 S = some r) : pmE pG (pm_rel pG sp (d + 0)) mi_M_joinedAhead 23 [none, none, none, some (.int x3)] [] S (some (.int r.1), r.2) := by
  unfold F_M_joinedAhead_23 at h
  refine pE_jump 1 (pc' := 24) (ls' := [none, none, none, some (.int x3)]) (st' := [.int x3]) (fun _ => rfl) ?_
  cases h
  exact pE_ret rfl rfl rfl
def B_M_joinedAhead_2 (N : Nat)  (rec2 : Int32 → pm_S → Option (Int32 × pm_S)) (x0 : Nat) (x1 : Int32) (x2 : Int32) (x3 : Int32) (S : pm_S) : Option (Int32 × pm_S) :=
    if 42 ≤ x3 then
    F_M_joinedAhead_31 N S
    else
    ((oR S x0 11 26).bind fun oq1 => match oq1 with
    | none => none
    | some q1 =>
    (aI [0, 6] S q1 x3).bind fun v2 =>
    if v2 = ((6 * x1) + x2) then
    F_M_joinedAhead_23 N x3 S
    else
    rec2 (x3 + 1) S)
def F_M_joinedAhead_2 (N : Nat)  (x0 : Nat) (x1 : Int32) (x2 : Int32) : Nat → Int32 → pm_S → Option (Int32 × pm_S)
  | 0 => fun _ _ => none
  | n + 1 => fun x3 S => B_M_joinedAhead_2 N  (F_M_joinedAhead_2 N  x0 x1 x2 n) x0 x1 x2 x3 S
set_option maxHeartbeats 4000000 in
set_option maxRecDepth 20000 in
theorem f_M_joinedAhead_2 (sp : pm_I → List Value → pm_S → pm_O → Prop) (d N : Nat)  (x0 : Nat) (x1 : Int32) (x2 : Int32)  : ∀ (n : Nat) (x3 : Int32) (S : pm_S) (r : (Int32 × pm_S)), F_M_joinedAhead_2 N  x0 x1 x2 n x3 S = some r → pmE pG (pm_rel pG sp (d + 0)) mi_M_joinedAhead 2 [some (.ref x0), some (.int x1), some (.int x2), some (.int x3)] [] S (some (.int r.1), r.2) := by
  intro n
  induction n with
  | zero =>
    intro x3 S r h
    cases h
  | succ n ih =>
    intro x3 S r h
    replace h : B_M_joinedAhead_2 N  (F_M_joinedAhead_2 N  x0 x1 x2 n) x0 x1 x2 x3 S = some r := h
    have hrec2 := ih
    generalize F_M_joinedAhead_2 N  x0 x1 x2 n = rec2 at h hrec2
    unfold B_M_joinedAhead_2 at h
    refine pE_jump 2 (pc' := 5) (ls' := [some (.ref x0), some (.int x1), some (.int x2), some (.int x3)]) (st' := [.int 42, .int x3]) (fun _ => rfl) ?_
    refine pE_br (42 ≤ x3) rfl rfl (fun c4 => ?_) (fun c4 => ?_)
    · rw [if_pos c4] at h
      refine pE_weak [none, none, none, none] trivial ?_
      exact f_M_joinedAhead_31 sp d N S _ h
    · rw [if_neg c4] at h
      refine pE_jump 1 (pc' := 9) (ls' := [some (.ref x0), some (.int x1), some (.int x2), some (.int x3)]) (st' := [.ref x0]) (fun _ => rfl) ?_
      obtain ⟨oq1, hq1, h⟩ := obind h
      cases oq1 with
      | none => cases h
      | some q1 =>
        try dsimp only at h
        refine pE_gfS rfl rfl hq1 ?_
        refine pE_jump 1 (pc' := 13) (ls' := [some (.ref x0), some (.int x1), some (.int x2), some (.int x3)]) (st' := [.int x3, .ref q1]) (fun _ => rfl) ?_
        obtain ⟨v2, hv2, h⟩ := obind h
        refine pE_aI rfl rfl hv2 ?_
        refine pE_jump 5 (pc' := 20) (ls' := [some (.ref x0), some (.int x1), some (.int x2), some (.int x3)]) (st' := [.int ((6 * x1) + x2), .int v2]) (fun _ => rfl) ?_
        refine pE_br (¬ v2 = ((6 * x1) + x2)) rfl rfl (fun c3 => ?_) (fun c3 => ?_)
        · rw [if_neg c3] at h
          refine pE_jump 2 (pc' := 2) (ls' := [some (.ref x0), some (.int x1), some (.int x2), some (.int (x3 + 1))]) (st' := []) (fun _ => rfl) ?_
          exact hrec2 (x3 + 1) S _ h
        · have c3 := Decidable.not_not.mp c3
          rw [if_pos c3] at h
          refine pE_weak [none, none, none, some (.int x3)] ⟨rfl, trivial⟩ ?_
          exact f_M_joinedAhead_23 sp d N x3 S _ h
def F_M_joinedAhead (N : Nat) (S : pm_S) (a : Nat) (p0 : Int32) (p1 : Int32) : Option (Int32 × pm_S) :=
    if rcv S a 11 = true then
    (F_M_joinedAhead_2 N a p0 p1 N 0 S)
    else none
theorem g_M_joinedAhead {N : Nat} {S : pm_S} {a : Nat} {p0 : Int32} {p1 : Int32} {r : (Int32 × pm_S)} (h : F_M_joinedAhead N S a p0 p1 = some r) : rcv S a 11 = true := by
  unfold F_M_joinedAhead at h
  by_cases c : rcv S a 11 = true
  · exact c
  · rw [if_neg c] at h; cases h
set_option maxHeartbeats 4000000 in
set_option maxRecDepth 20000 in
theorem f_M_joinedAhead (sp : pm_I → List Value → pm_S → pm_O → Prop) (d N : Nat) (S : pm_S) (a : Nat) (p0 : Int32) (p1 : Int32) (r : (Int32 × pm_S)) (h : F_M_joinedAhead N S a p0 p1 = some r) : pm_rel pG sp (d + 1) mi_M_joinedAhead [.ref a, .int p0, .int p1] S (some (.int r.1), r.2) := by
  have hg := g_M_joinedAhead h
  unfold F_M_joinedAhead at h
  rw [if_pos hg] at h
  refine pE_rel (d := d + 0) ?_
  show pmE pG _ mi_M_joinedAhead 0 [some (.ref a), some (.int p0), some (.int p1), none] [] S _
  refine pE_jump 2 (pc' := 2) (ls' := [some (.ref a), some (.int p0), some (.int p1), some (.int 0)]) (st' := []) (fun _ => rfl) ?_
  exact f_M_joinedAhead_2 sp d N a p0 p1 N 0 S _ h
def F_M_metresAt_192 (N : Nat)  (t0 : Int32) (t1 : Int32) (S : pm_S) : Option (Int32 × pm_S) :=
    some (t1 + t0, S)
set_option maxHeartbeats 4000000 in
set_option maxRecDepth 20000 in
theorem f_M_metresAt_192 (sp : pm_I → List Value → pm_S → pm_O → Prop) (d N : Nat)  (t0 : Int32) (t1 : Int32) (S : pm_S)  (r : (Int32 × pm_S)) (h : F_M_metresAt_192 N  t0 t1 S = some r) : pmE pG (pm_rel pG sp (d + 3)) mi_M_metresAt 192 [none, none, none, none, none, none, none, none, none, none, none] [.int t0, .int t1] S (some (.int r.1), r.2) := by
  unfold F_M_metresAt_192 at h
  refine pE_jump 1 (pc' := 193) (ls' := [none, none, none, none, none, none, none, none, none, none, none]) (st' := [.int (t1 + t0)]) (fun _ => rfl) ?_
  cases h
  exact pE_ret rfl rfl rfl
def F_M_metresAt_191 (N : Nat)  (t0 : Int32) (S : pm_S) : Option (Int32 × pm_S) :=
    F_M_metresAt_192 N 0 t0 S
set_option maxHeartbeats 4000000 in
set_option maxRecDepth 20000 in
theorem f_M_metresAt_191 (sp : pm_I → List Value → pm_S → pm_O → Prop) (d N : Nat)  (t0 : Int32) (S : pm_S)  (r : (Int32 × pm_S)) (h : F_M_metresAt_191 N  t0 S = some r) : pmE pG (pm_rel pG sp (d + 3)) mi_M_metresAt 191 [none, none, none, none, none, none, none, none, none, none, none] [.int t0] S (some (.int r.1), r.2) := by
  unfold F_M_metresAt_191 at h
  refine pE_jump 1 (pc' := 192) (ls' := [none, none, none, none, none, none, none, none, none, none, none]) (st' := [.int 0, .int t0]) (fun _ => rfl) ?_
  exact f_M_metresAt_192 sp d N 0 t0 S _ h
def F_M_metresAt_168 (N : Nat)  (x0 : Nat) (x3 : Int32) (x6 : Int32) (x9 : Int32) (S : pm_S) : Option (Int32 × pm_S) :=
    if x3 = 0 then
    ((oR S x0 11 27).bind fun oq11 => match oq11 with
    | none => none
    | some q11 =>
    (aI [0, 6] S q11 x9).bind fun v12 =>
    if v12 = (-1) then
    F_M_metresAt_191 N (4 * x6) S
    else
    F_M_metresAt_192 N 1 (4 * x6) S)
    else
    F_M_metresAt_191 N (4 * x6) S
set_option maxHeartbeats 4000000 in
set_option maxRecDepth 20000 in
theorem f_M_metresAt_168 (sp : pm_I → List Value → pm_S → pm_O → Prop) (d N : Nat)  (x0 : Nat) (x3 : Int32) (x6 : Int32) (x9 : Int32) (S : pm_S)  (r : (Int32 × pm_S)) (h : F_M_metresAt_168 N  x0 x3 x6 x9 S = some r) : pmE pG (pm_rel pG sp (d + 3)) mi_M_metresAt 168 [some (.ref x0), none, none, some (.int x3), none, none, some (.int x6), none, none, some (.int x9), none] [] S (some (.int r.1), r.2) := by
  unfold F_M_metresAt_168 at h
  refine pE_jump 4 (pc' := 173) (ls' := [some (.ref x0), none, none, some (.int x3), none, none, some (.int x6), none, none, some (.int x9), none]) (st' := [.int x3, .int (4 * x6)]) (fun _ => rfl) ?_
  refine pE_br (¬ x3 = 0) rfl rfl (fun c14 => ?_) (fun c14 => ?_)
  · rw [if_neg c14] at h
    refine pE_weak [none, none, none, none, none, none, none, none, none, none, none] trivial ?_
    exact f_M_metresAt_191 sp d N (4 * x6) S _ h
  · have c14 := Decidable.not_not.mp c14
    rw [if_pos c14] at h
    refine pE_jump 1 (pc' := 177) (ls' := [some (.ref x0), none, none, some (.int x3), none, none, some (.int x6), none, none, some (.int x9), none]) (st' := [.ref x0, .int (4 * x6)]) (fun _ => rfl) ?_
    obtain ⟨oq11, hq11, h⟩ := obind h
    cases oq11 with
    | none => cases h
    | some q11 =>
      try dsimp only at h
      refine pE_gfS rfl rfl hq11 ?_
      refine pE_jump 1 (pc' := 182) (ls' := [some (.ref x0), none, none, some (.int x3), none, none, some (.int x6), none, none, some (.int x9), none]) (st' := [.int x9, .ref q11, .int (4 * x6)]) (fun _ => rfl) ?_
      obtain ⟨v12, hv12, h⟩ := obind h
      refine pE_aI rfl rfl hv12 ?_
      refine pE_jump 1 (pc' := 184) (ls' := [some (.ref x0), none, none, some (.int x3), none, none, some (.int x6), none, none, some (.int x9), none]) (st' := [.int (-1), .int v12, .int (4 * x6)]) (fun _ => rfl) ?_
      refine pE_br (v12 = (-1)) rfl rfl (fun c13 => ?_) (fun c13 => ?_)
      · rw [if_pos c13] at h
        refine pE_weak [none, none, none, none, none, none, none, none, none, none, none] trivial ?_
        exact f_M_metresAt_191 sp d N (4 * x6) S _ h
      · rw [if_neg c13] at h
        refine pE_jump 2 (pc' := 192) (ls' := [some (.ref x0), none, none, some (.int x3), none, none, some (.int x6), none, none, some (.int x9), none]) (st' := [.int 1, .int (4 * x6)]) (fun _ => rfl) ?_
        refine pE_weak [none, none, none, none, none, none, none, none, none, none, none] trivial ?_
        exact f_M_metresAt_192 sp d N 1 (4 * x6) S _ h
def F_M_metresAt_224 (N : Nat) (rec22 : Int32 → Int32 → Int32 → pm_S → Option (Int32 × pm_S)) (x0 : Nat) (x3 : Int32) (x4 : Int32) (x6 : Int32) (t0 : Int32) (S : pm_S) : Option (Int32 × pm_S) :=
    rec22 x4 t0 x6 S
set_option maxHeartbeats 4000000 in
set_option maxRecDepth 20000 in
theorem f_M_metresAt_224 (sp : pm_I → List Value → pm_S → pm_O → Prop) (d N : Nat) (rec22 : Int32 → Int32 → Int32 → pm_S → Option (Int32 × pm_S)) (x0 : Nat) (x3 : Int32) (x4 : Int32) (x6 : Int32) (t0 : Int32) (S : pm_S) (hrec22 : ∀ (y1 : Int32) (y2 : Int32) (y3 : Int32) (U : pm_S) (r : (Int32 × pm_S)), rec22 y1 y2 y3 U = some r → pmE pG (pm_rel pG sp (d + 3)) mi_M_metresAt 22 [some (.ref x0), none, none, some (.int x3), some (.int y1), some (.int y2), some (.int y3), none, none, none, none] [] U (some (.int r.1), r.2)) (r : (Int32 × pm_S)) (h : F_M_metresAt_224 N rec22 x0 x3 x4 x6 t0 S = some r) : pmE pG (pm_rel pG sp (d + 3)) mi_M_metresAt 224 [some (.ref x0), none, none, some (.int x3), some (.int x4), none, some (.int x6), none, none, none, none] [.int t0] S (some (.int r.1), r.2) := by
  unfold F_M_metresAt_224 at h
  refine pE_jump 2 (pc' := 22) (ls' := [some (.ref x0), none, none, some (.int x3), some (.int x4), some (.int t0), some (.int x6), none, none, none, none]) (st' := []) (fun _ => rfl) ?_
  exact hrec22 x4 t0 x6 S _ h
def F_M_metresAt_160 (N : Nat) (rec22 : Int32 → Int32 → Int32 → pm_S → Option (Int32 × pm_S)) (x0 : Nat) (x3 : Int32) (x6 : Int32) (x9 : Int32) (t0 : Int32) (S : pm_S) : Option (Int32 × pm_S) :=
    if t0 = (-1) then
    F_M_metresAt_168 N x0 x3 x6 x9 S
    else
    (if x3 = 0 then
    F_M_metresAt_224 N rec22 x0 x3 (t0 / 6) x6 (t0 - t0 / 6 * 6) S
    else
    ((F_M_cameAs N S x0 (t0 / 6) (t0 - t0 / 6 * 6)).bind fun (v16, S15) =>
    F_M_metresAt_224 N rec22 x0 x3 (t0 / 6) x6 v16 S15))
set_option maxHeartbeats 4000000 in
set_option maxRecDepth 20000 in
theorem f_M_metresAt_160 (sp : pm_I → List Value → pm_S → pm_O → Prop) (d N : Nat) (rec22 : Int32 → Int32 → Int32 → pm_S → Option (Int32 × pm_S)) (x0 : Nat) (x3 : Int32) (x6 : Int32) (x9 : Int32) (t0 : Int32) (S : pm_S) (hrec22 : ∀ (y1 : Int32) (y2 : Int32) (y3 : Int32) (U : pm_S) (r : (Int32 × pm_S)), rec22 y1 y2 y3 U = some r → pmE pG (pm_rel pG sp (d + 3)) mi_M_metresAt 22 [some (.ref x0), none, none, some (.int x3), some (.int y1), some (.int y2), some (.int y3), none, none, none, none] [] U (some (.int r.1), r.2)) (r : (Int32 × pm_S)) (h : F_M_metresAt_160 N rec22 x0 x3 x6 x9 t0 S = some r) : pmE pG (pm_rel pG sp (d + 3)) mi_M_metresAt 160 [some (.ref x0), none, none, some (.int x3), none, none, some (.int x6), none, none, some (.int x9), none] [.int t0] S (some (.int r.1), r.2) := by
  unfold F_M_metresAt_160 at h
  refine pE_jump 3 (pc' := 165) (ls' := [some (.ref x0), none, none, some (.int x3), none, none, some (.int x6), none, none, some (.int x9), some (.int t0)]) (st' := [.int (-1), .int t0]) (fun _ => rfl) ?_
  refine pE_br (¬ t0 = (-1)) rfl rfl (fun c18 => ?_) (fun c18 => ?_)
  · rw [if_neg c18] at h
    refine pE_jump 2 (pc' := 198) (ls' := [some (.ref x0), none, none, some (.int x3), none, none, some (.int x6), none, none, some (.int x9), some (.int t0)]) (st' := [.int 6, .int t0]) (fun _ => rfl) ?_
    refine pE_jump 1 (pc' := 199) (ls' := [some (.ref x0), none, none, some (.int x3), none, none, some (.int x6), none, none, some (.int x9), some (.int t0)]) (st' := [.int (t0 / 6)]) (fun _ => rfl) ?_
    refine pE_jump 2 (pc' := 202) (ls' := [some (.ref x0), none, none, some (.int x3), some (.int (t0 / 6)), none, some (.int x6), none, none, some (.int x9), some (.int t0)]) (st' := [.int x3]) (fun _ => rfl) ?_
    refine pE_br (¬ x3 = 0) rfl rfl (fun c17 => ?_) (fun c17 => ?_)
    · rw [if_neg c17] at h
      refine pE_jump 4 (pc' := 220) (ls' := [some (.ref x0), none, none, some (.int x3), some (.int (t0 / 6)), none, some (.int x6), none, none, some (.int x9), some (.int t0)]) (st' := [.int 6, .int t0, .int (t0 / 6), .ref x0]) (fun _ => rfl) ?_
      refine pE_jump 1 (pc' := 221) (ls' := [some (.ref x0), none, none, some (.int x3), some (.int (t0 / 6)), none, some (.int x6), none, none, some (.int x9), some (.int t0)]) (st' := [.int (t0 - t0 / 6 * 6), .int (t0 / 6), .ref x0]) (fun _ => rfl) ?_
      obtain ⟨⟨v16, S15⟩, hv16, h⟩ := obind h
      try dsimp only at h
      refine pE_iv (Bs := [.int (t0 / 6), .int (t0 - t0 / 6 * 6)]) (st := []) 1 rfl (Or.inl ⟨rfl, rfl⟩) rfl rfl (Nat.le_of_ble_eq_true rfl) (Nat.le_of_ble_eq_true rfl) (g_M_cameAs hv16) (f_M_cameAs sp (d + 2) N S x0 (t0 / 6) (t0 - t0 / 6 * 6) _ hv16) ?_
      refine pE_weak [some (.ref x0), none, none, some (.int x3), some (.int (t0 / 6)), none, some (.int x6), none, none, none, none] ⟨rfl, ⟨rfl, ⟨rfl, ⟨rfl, trivial⟩⟩⟩⟩ ?_
      exact f_M_metresAt_224 sp d N rec22 x0 x3 (t0 / 6) x6 v16 S15 hrec22 _ h
    · have c17 := Decidable.not_not.mp c17
      rw [if_pos c17] at h
      refine pE_jump 2 (pc' := 209) (ls' := [some (.ref x0), none, none, some (.int x3), some (.int (t0 / 6)), none, some (.int x6), none, none, some (.int x9), some (.int t0)]) (st' := [.int 6, .int t0]) (fun _ => rfl) ?_
      refine pE_jump 1 (pc' := 210) (ls' := [some (.ref x0), none, none, some (.int x3), some (.int (t0 / 6)), none, some (.int x6), none, none, some (.int x9), some (.int t0)]) (st' := [.int (t0 - t0 / 6 * 6)]) (fun _ => rfl) ?_
      refine pE_jump 1 (pc' := 224) (ls' := [some (.ref x0), none, none, some (.int x3), some (.int (t0 / 6)), none, some (.int x6), none, none, some (.int x9), some (.int t0)]) (st' := [.int (t0 - t0 / 6 * 6)]) (fun _ => rfl) ?_
      refine pE_weak [some (.ref x0), none, none, some (.int x3), some (.int (t0 / 6)), none, some (.int x6), none, none, none, none] ⟨rfl, ⟨rfl, ⟨rfl, ⟨rfl, trivial⟩⟩⟩⟩ ?_
      exact f_M_metresAt_224 sp d N rec22 x0 x3 (t0 / 6) x6 (t0 - t0 / 6 * 6) S hrec22 _ h
  · have c18 := Decidable.not_not.mp c18
    rw [if_pos c18] at h
    refine pE_weak [some (.ref x0), none, none, some (.int x3), none, none, some (.int x6), none, none, some (.int x9), none] ⟨rfl, ⟨rfl, ⟨rfl, ⟨rfl, trivial⟩⟩⟩⟩ ?_
    exact f_M_metresAt_168 sp d N x0 x3 x6 x9 S _ h
def F_M_metresAt_103 (N : Nat)  (t0 : Int32) (t1 : Int32) (t2 : Int32) (S : pm_S) : Option (Int32 × pm_S) :=
    some (t2 * (t1 + t0), S)
set_option maxHeartbeats 4000000 in
set_option maxRecDepth 20000 in
theorem f_M_metresAt_103 (sp : pm_I → List Value → pm_S → pm_O → Prop) (d N : Nat)  (t0 : Int32) (t1 : Int32) (t2 : Int32) (S : pm_S)  (r : (Int32 × pm_S)) (h : F_M_metresAt_103 N  t0 t1 t2 S = some r) : pmE pG (pm_rel pG sp (d + 3)) mi_M_metresAt 103 [none, none, none, none, none, none, none, none, none, none, none] [.int t0, .int t1, .int t2] S (some (.int r.1), r.2) := by
  unfold F_M_metresAt_103 at h
  refine pE_jump 2 (pc' := 105) (ls' := [none, none, none, none, none, none, none, none, none, none, none]) (st' := [.int (t2 * (t1 + t0))]) (fun _ => rfl) ?_
  cases h
  exact pE_ret rfl rfl rfl
def F_M_metresAt_82 (N : Nat)  (x0 : Nat) (x3 : Int32) (x4 : Int32) (x6 : Int32) (x8 : Int32) (S : pm_S) : Option (Int32 × pm_S) :=
    if x3 = 0 then
    F_M_metresAt_103 N x8 x6 4 S
    else
    ((F_M_longOf N S x0 x4).bind fun (v23, S22) =>
    F_M_metresAt_103 N (v23 - x8) x6 4 S22)
set_option maxHeartbeats 4000000 in
set_option maxRecDepth 20000 in
theorem f_M_metresAt_82 (sp : pm_I → List Value → pm_S → pm_O → Prop) (d N : Nat)  (x0 : Nat) (x3 : Int32) (x4 : Int32) (x6 : Int32) (x8 : Int32) (S : pm_S)  (r : (Int32 × pm_S)) (h : F_M_metresAt_82 N  x0 x3 x4 x6 x8 S = some r) : pmE pG (pm_rel pG sp (d + 3)) mi_M_metresAt 82 [some (.ref x0), none, none, some (.int x3), some (.int x4), none, some (.int x6), none, some (.int x8), none, none] [] S (some (.int r.1), r.2) := by
  unfold F_M_metresAt_82 at h
  refine pE_jump 3 (pc' := 86) (ls' := [some (.ref x0), none, none, some (.int x3), some (.int x4), none, some (.int x6), none, some (.int x8), none, none]) (st' := [.int x3, .int x6, .int 4]) (fun _ => rfl) ?_
  refine pE_br (¬ x3 = 0) rfl rfl (fun c24 => ?_) (fun c24 => ?_)
  · rw [if_neg c24] at h
    refine pE_jump 2 (pc' := 97) (ls' := [some (.ref x0), none, none, some (.int x3), some (.int x4), none, some (.int x6), none, some (.int x8), none, none]) (st' := [.int x4, .ref x0, .int x6, .int 4]) (fun _ => rfl) ?_
    obtain ⟨⟨v23, S22⟩, hv23, h⟩ := obind h
    try dsimp only at h
    refine pE_iv (Bs := [.int x4]) (st := [.int x6, .int 4]) 1 rfl (Or.inl ⟨rfl, rfl⟩) rfl rfl (Nat.le_of_ble_eq_true rfl) (Nat.le_of_ble_eq_true rfl) (g_M_longOf hv23) (f_M_longOf sp (d + 2) N S x0 x4 _ hv23) ?_
    refine pE_jump 2 (pc' := 103) (ls' := [some (.ref x0), none, none, some (.int x3), some (.int x4), none, some (.int x6), none, some (.int x8), none, none]) (st' := [.int (v23 - x8), .int x6, .int 4]) (fun _ => rfl) ?_
    refine pE_weak [none, none, none, none, none, none, none, none, none, none, none] trivial ?_
    exact f_M_metresAt_103 sp d N (v23 - x8) x6 4 S22 _ h
  · have c24 := Decidable.not_not.mp c24
    rw [if_pos c24] at h
    refine pE_jump 2 (pc' := 103) (ls' := [some (.ref x0), none, none, some (.int x3), some (.int x4), none, some (.int x6), none, some (.int x8), none, none]) (st' := [.int x8, .int x6, .int 4]) (fun _ => rfl) ?_
    refine pE_weak [none, none, none, none, none, none, none, none, none, none, none] trivial ?_
    exact f_M_metresAt_103 sp d N x8 x6 4 S _ h
def F_M_metresAt_60 (N : Nat)  (t0 : Int32) (t1 : Int32) (t2 : Int32) (S : pm_S) : Option (Int32 × pm_S) :=
    some ((t2 * (t1 + t0)) + 2, S)
set_option maxHeartbeats 4000000 in
set_option maxRecDepth 20000 in
theorem f_M_metresAt_60 (sp : pm_I → List Value → pm_S → pm_O → Prop) (d N : Nat)  (t0 : Int32) (t1 : Int32) (t2 : Int32) (S : pm_S)  (r : (Int32 × pm_S)) (h : F_M_metresAt_60 N  t0 t1 t2 S = some r) : pmE pG (pm_rel pG sp (d + 3)) mi_M_metresAt 60 [none, none, none, none, none, none, none, none, none, none, none] [.int t0, .int t1, .int t2] S (some (.int r.1), r.2) := by
  unfold F_M_metresAt_60 at h
  refine pE_jump 4 (pc' := 64) (ls' := [none, none, none, none, none, none, none, none, none, none, none]) (st' := [.int ((t2 * (t1 + t0)) + 2)]) (fun _ => rfl) ?_
  cases h
  exact pE_ret rfl rfl rfl
def F_M_metresAt_39 (N : Nat)  (x0 : Nat) (x3 : Int32) (x4 : Int32) (x6 : Int32) (x7 : Int32) (S : pm_S) : Option (Int32 × pm_S) :=
    if x3 = 0 then
    F_M_metresAt_60 N x7 x6 4 S
    else
    ((F_M_longOf N S x0 x4).bind fun (v27, S26) =>
    F_M_metresAt_60 N (v27 - x7) x6 4 S26)
set_option maxHeartbeats 4000000 in
set_option maxRecDepth 20000 in
theorem f_M_metresAt_39 (sp : pm_I → List Value → pm_S → pm_O → Prop) (d N : Nat)  (x0 : Nat) (x3 : Int32) (x4 : Int32) (x6 : Int32) (x7 : Int32) (S : pm_S)  (r : (Int32 × pm_S)) (h : F_M_metresAt_39 N  x0 x3 x4 x6 x7 S = some r) : pmE pG (pm_rel pG sp (d + 3)) mi_M_metresAt 39 [some (.ref x0), none, none, some (.int x3), some (.int x4), none, some (.int x6), some (.int x7), none, none, none] [] S (some (.int r.1), r.2) := by
  unfold F_M_metresAt_39 at h
  refine pE_jump 3 (pc' := 43) (ls' := [some (.ref x0), none, none, some (.int x3), some (.int x4), none, some (.int x6), some (.int x7), none, none, none]) (st' := [.int x3, .int x6, .int 4]) (fun _ => rfl) ?_
  refine pE_br (¬ x3 = 0) rfl rfl (fun c28 => ?_) (fun c28 => ?_)
  · rw [if_neg c28] at h
    refine pE_jump 2 (pc' := 54) (ls' := [some (.ref x0), none, none, some (.int x3), some (.int x4), none, some (.int x6), some (.int x7), none, none, none]) (st' := [.int x4, .ref x0, .int x6, .int 4]) (fun _ => rfl) ?_
    obtain ⟨⟨v27, S26⟩, hv27, h⟩ := obind h
    try dsimp only at h
    refine pE_iv (Bs := [.int x4]) (st := [.int x6, .int 4]) 1 rfl (Or.inl ⟨rfl, rfl⟩) rfl rfl (Nat.le_of_ble_eq_true rfl) (Nat.le_of_ble_eq_true rfl) (g_M_longOf hv27) (f_M_longOf sp (d + 2) N S x0 x4 _ hv27) ?_
    refine pE_jump 2 (pc' := 60) (ls' := [some (.ref x0), none, none, some (.int x3), some (.int x4), none, some (.int x6), some (.int x7), none, none, none]) (st' := [.int (v27 - x7), .int x6, .int 4]) (fun _ => rfl) ?_
    refine pE_weak [none, none, none, none, none, none, none, none, none, none, none] trivial ?_
    exact f_M_metresAt_60 sp d N (v27 - x7) x6 4 S26 _ h
  · have c28 := Decidable.not_not.mp c28
    rw [if_pos c28] at h
    refine pE_jump 2 (pc' := 60) (ls' := [some (.ref x0), none, none, some (.int x3), some (.int x4), none, some (.int x6), some (.int x7), none, none, none]) (st' := [.int x7, .int x6, .int 4]) (fun _ => rfl) ?_
    refine pE_weak [none, none, none, none, none, none, none, none, none, none, none] trivial ?_
    exact f_M_metresAt_60 sp d N x7 x6 4 S _ h
def B_M_metresAt_22 (N : Nat)  (rec22 : Int32 → Int32 → Int32 → pm_S → Option (Int32 × pm_S)) (x0 : Nat) (x3 : Int32) (x4 : Int32) (x5 : Int32) (x6 : Int32) (S : pm_S) : Option (Int32 × pm_S) :=
    (F_M_firstTouch N S x0 x4 x5 x3).bind fun (v2, S1) =>
    if v2 = (-1) then
    ((F_M_firstBreak N S1 x0 x4 x5 x3).bind fun (v4, S3) =>
    if v4 = (-1) then
    ((F_M_longOf N S3 x0 x4).bind fun (v6, S5) =>
    (oR S5 x0 11 28).bind fun oq7 => match oq7 with
    | none => none
    | some q7 =>
    (aI [0, 6] S5 q7 ((6 * x4) + x5)).bind fun v8 =>
    if x3 = 0 then
    ((oR S5 x0 11 26).bind fun oq9 => match oq9 with
    | none => none
    | some q9 =>
    (aI [0, 6] S5 q9 ((6 * x4) + v8)).bind fun v10 =>
    F_M_metresAt_160 N rec22 x0 x3 (x6 + v6) ((6 * x4) + v8) v10 S5)
    else
    ((F_M_joinedAhead N S5 x0 x4 x5).bind fun (v20, S19) =>
    F_M_metresAt_160 N rec22 x0 x3 (x6 + v6) ((6 * x4) + v8) v20 S19))
    else
    F_M_metresAt_82 N x0 x3 x4 x6 v4 S3)
    else
    F_M_metresAt_39 N x0 x3 x4 x6 v2 S1
def F_M_metresAt_22 (N : Nat)  (x0 : Nat) (x3 : Int32) : Nat → Int32 → Int32 → Int32 → pm_S → Option (Int32 × pm_S)
  | 0 => fun _ _ _ _ => none
  | n + 1 => fun x4 x5 x6 S => B_M_metresAt_22 N  (F_M_metresAt_22 N  x0 x3 n) x0 x3 x4 x5 x6 S
set_option maxHeartbeats 4000000 in
set_option maxRecDepth 20000 in
theorem f_M_metresAt_22 (sp : pm_I → List Value → pm_S → pm_O → Prop) (d N : Nat)  (x0 : Nat) (x3 : Int32)  : ∀ (n : Nat) (x4 : Int32) (x5 : Int32) (x6 : Int32) (S : pm_S) (r : (Int32 × pm_S)), F_M_metresAt_22 N  x0 x3 n x4 x5 x6 S = some r → pmE pG (pm_rel pG sp (d + 3)) mi_M_metresAt 22 [some (.ref x0), none, none, some (.int x3), some (.int x4), some (.int x5), some (.int x6), none, none, none, none] [] S (some (.int r.1), r.2) := by
  intro n
  induction n with
  | zero =>
    intro x4 x5 x6 S r h
    cases h
  | succ n ih =>
    intro x4 x5 x6 S r h
    replace h : B_M_metresAt_22 N  (F_M_metresAt_22 N  x0 x3 n) x0 x3 x4 x5 x6 S = some r := h
    have hrec22 := ih
    generalize F_M_metresAt_22 N  x0 x3 n = rec22 at h hrec22
    unfold B_M_metresAt_22 at h
    refine pE_jump 4 (pc' := 28) (ls' := [some (.ref x0), none, none, some (.int x3), some (.int x4), some (.int x5), some (.int x6), none, none, none, none]) (st' := [.int x3, .int x5, .int x4, .ref x0]) (fun _ => rfl) ?_
    obtain ⟨⟨v2, S1⟩, hv2, h⟩ := obind h
    try dsimp only at h
    refine pE_iv (Bs := [.int x4, .int x5, .int x3]) (st := []) 1 rfl (Or.inl ⟨rfl, rfl⟩) rfl rfl (Nat.le_of_ble_eq_true rfl) (Nat.le_of_ble_eq_true rfl) (g_M_firstTouch hv2) (f_M_firstTouch sp d N S x0 x4 x5 x3 _ hv2) ?_
    refine pE_jump 3 (pc' := 36) (ls' := [some (.ref x0), none, none, some (.int x3), some (.int x4), some (.int x5), some (.int x6), some (.int v2), none, none, none]) (st' := [.int (-1), .int v2]) (fun _ => rfl) ?_
    refine pE_br (v2 = (-1)) rfl rfl (fun c29 => ?_) (fun c29 => ?_)
    · rw [if_pos c29] at h
      refine pE_jump 4 (pc' := 71) (ls' := [some (.ref x0), none, none, some (.int x3), some (.int x4), some (.int x5), some (.int x6), some (.int v2), none, none, none]) (st' := [.int x3, .int x5, .int x4, .ref x0]) (fun _ => rfl) ?_
      obtain ⟨⟨v4, S3⟩, hv4, h⟩ := obind h
      try dsimp only at h
      refine pE_iv (Bs := [.int x4, .int x5, .int x3]) (st := []) 1 rfl (Or.inl ⟨rfl, rfl⟩) rfl rfl (Nat.le_of_ble_eq_true rfl) (Nat.le_of_ble_eq_true rfl) (g_M_firstBreak hv4) (f_M_firstBreak sp d N S1 x0 x4 x5 x3 _ hv4) ?_
      refine pE_jump 3 (pc' := 79) (ls' := [some (.ref x0), none, none, some (.int x3), some (.int x4), some (.int x5), some (.int x6), some (.int v2), some (.int v4), none, none]) (st' := [.int (-1), .int v4]) (fun _ => rfl) ?_
      refine pE_br (v4 = (-1)) rfl rfl (fun c25 => ?_) (fun c25 => ?_)
      · rw [if_pos c25] at h
        refine pE_jump 3 (pc' := 111) (ls' := [some (.ref x0), none, none, some (.int x3), some (.int x4), some (.int x5), some (.int x6), some (.int v2), some (.int v4), none, none]) (st' := [.int x4, .ref x0, .int x6]) (fun _ => rfl) ?_
        obtain ⟨⟨v6, S5⟩, hv6, h⟩ := obind h
        try dsimp only at h
        refine pE_iv (Bs := [.int x4]) (st := [.int x6]) 1 rfl (Or.inl ⟨rfl, rfl⟩) rfl rfl (Nat.le_of_ble_eq_true rfl) (Nat.le_of_ble_eq_true rfl) (g_M_longOf hv6) (f_M_longOf sp (d + 2) N S3 x0 x4 _ hv6) ?_
        refine pE_jump 6 (pc' := 123) (ls' := [some (.ref x0), none, none, some (.int x3), some (.int x4), some (.int x5), some (.int (x6 + v6)), some (.int v2), some (.int v4), none, none]) (st' := [.ref x0, .int (6 * x4)]) (fun _ => rfl) ?_
        obtain ⟨oq7, hq7, h⟩ := obind h
        cases oq7 with
        | none => cases h
        | some q7 =>
          try dsimp only at h
          refine pE_gfS rfl rfl hq7 ?_
          refine pE_jump 5 (pc' := 134) (ls' := [some (.ref x0), none, none, some (.int x3), some (.int x4), some (.int x5), some (.int (x6 + v6)), some (.int v2), some (.int v4), none, none]) (st' := [.int ((6 * x4) + x5), .ref q7, .int (6 * x4)]) (fun _ => rfl) ?_
          obtain ⟨v8, hv8, h⟩ := obind h
          refine pE_aI rfl rfl hv8 ?_
          refine pE_jump 3 (pc' := 139) (ls' := [some (.ref x0), none, none, some (.int x3), some (.int x4), some (.int x5), some (.int (x6 + v6)), some (.int v2), some (.int v4), some (.int ((6 * x4) + v8)), none]) (st' := [.int x3]) (fun _ => rfl) ?_
          refine pE_br (¬ x3 = 0) rfl rfl (fun c21 => ?_) (fun c21 => ?_)
          · rw [if_neg c21] at h
            refine pE_jump 3 (pc' := 157) (ls' := [some (.ref x0), none, none, some (.int x3), some (.int x4), some (.int x5), some (.int (x6 + v6)), some (.int v2), some (.int v4), some (.int ((6 * x4) + v8)), none]) (st' := [.int x5, .int x4, .ref x0]) (fun _ => rfl) ?_
            obtain ⟨⟨v20, S19⟩, hv20, h⟩ := obind h
            try dsimp only at h
            refine pE_iv (Bs := [.int x4, .int x5]) (st := []) 1 rfl (Or.inl ⟨rfl, rfl⟩) rfl rfl (Nat.le_of_ble_eq_true rfl) (Nat.le_of_ble_eq_true rfl) (g_M_joinedAhead hv20) (f_M_joinedAhead sp (d + 2) N S5 x0 x4 x5 _ hv20) ?_
            refine pE_weak [some (.ref x0), none, none, some (.int x3), none, none, some (.int (x6 + v6)), none, none, some (.int ((6 * x4) + v8)), none] ⟨rfl, ⟨rfl, ⟨rfl, ⟨rfl, trivial⟩⟩⟩⟩ ?_
            exact f_M_metresAt_160 sp d N rec22 x0 x3 (x6 + v6) ((6 * x4) + v8) v20 S19 hrec22 _ h
          · have c21 := Decidable.not_not.mp c21
            rw [if_pos c21] at h
            refine pE_jump 1 (pc' := 143) (ls' := [some (.ref x0), none, none, some (.int x3), some (.int x4), some (.int x5), some (.int (x6 + v6)), some (.int v2), some (.int v4), some (.int ((6 * x4) + v8)), none]) (st' := [.ref x0]) (fun _ => rfl) ?_
            obtain ⟨oq9, hq9, h⟩ := obind h
            cases oq9 with
            | none => cases h
            | some q9 =>
              try dsimp only at h
              refine pE_gfS rfl rfl hq9 ?_
              refine pE_jump 1 (pc' := 148) (ls' := [some (.ref x0), none, none, some (.int x3), some (.int x4), some (.int x5), some (.int (x6 + v6)), some (.int v2), some (.int v4), some (.int ((6 * x4) + v8)), none]) (st' := [.int ((6 * x4) + v8), .ref q9]) (fun _ => rfl) ?_
              obtain ⟨v10, hv10, h⟩ := obind h
              refine pE_aI rfl rfl hv10 ?_
              refine pE_jump 1 (pc' := 160) (ls' := [some (.ref x0), none, none, some (.int x3), some (.int x4), some (.int x5), some (.int (x6 + v6)), some (.int v2), some (.int v4), some (.int ((6 * x4) + v8)), none]) (st' := [.int v10]) (fun _ => rfl) ?_
              refine pE_weak [some (.ref x0), none, none, some (.int x3), none, none, some (.int (x6 + v6)), none, none, some (.int ((6 * x4) + v8)), none] ⟨rfl, ⟨rfl, ⟨rfl, ⟨rfl, trivial⟩⟩⟩⟩ ?_
              exact f_M_metresAt_160 sp d N rec22 x0 x3 (x6 + v6) ((6 * x4) + v8) v10 S5 hrec22 _ h
      · rw [if_neg c25] at h
        refine pE_weak [some (.ref x0), none, none, some (.int x3), some (.int x4), none, some (.int x6), none, some (.int v4), none, none] ⟨rfl, ⟨rfl, ⟨rfl, ⟨rfl, ⟨rfl, trivial⟩⟩⟩⟩⟩ ?_
        exact f_M_metresAt_82 sp d N x0 x3 x4 x6 v4 S3 _ h
    · rw [if_neg c29] at h
      refine pE_weak [some (.ref x0), none, none, some (.int x3), some (.int x4), none, some (.int x6), some (.int v2), none, none, none] ⟨rfl, ⟨rfl, ⟨rfl, ⟨rfl, ⟨rfl, trivial⟩⟩⟩⟩⟩ ?_
      exact f_M_metresAt_39 sp d N x0 x3 x4 x6 v2 S1 _ h
def F_M_metresAt_17 (N : Nat)  (x0 : Nat) (x3 : Int32) (x4 : Int32) (t0 : Int32) (S : pm_S) : Option (Int32 × pm_S) :=
    F_M_metresAt_22 N x0 x3 N x4 t0 0 S
set_option maxHeartbeats 4000000 in
set_option maxRecDepth 20000 in
theorem f_M_metresAt_17 (sp : pm_I → List Value → pm_S → pm_O → Prop) (d N : Nat)  (x0 : Nat) (x3 : Int32) (x4 : Int32) (t0 : Int32) (S : pm_S)  (r : (Int32 × pm_S)) (h : F_M_metresAt_17 N  x0 x3 x4 t0 S = some r) : pmE pG (pm_rel pG sp (d + 3)) mi_M_metresAt 17 [some (.ref x0), none, none, some (.int x3), some (.int x4), none, none, none, none, none, none] [.int t0] S (some (.int r.1), r.2) := by
  unfold F_M_metresAt_17 at h
  refine pE_jump 3 (pc' := 22) (ls' := [some (.ref x0), none, none, some (.int x3), some (.int x4), some (.int t0), some (.int 0), none, none, none, none]) (st' := []) (fun _ => rfl) ?_
  exact f_M_metresAt_22 sp d N x0 x3 N x4 t0 0 S _ h
def F_M_metresAt (N : Nat) (S : pm_S) (a : Nat) (p0 : Int32) (p1 : Int32) (p2 : Int32) : Option (Int32 × pm_S) :=
    if rcv S a 11 = true then
    (if p2 = 0 then
    F_M_metresAt_17 N a p2 p0 p1 S
    else
    ((F_M_cameAs N S a p0 p1).bind fun (v31, S30) =>
    F_M_metresAt_17 N a p2 p0 v31 S30))
    else none
theorem g_M_metresAt {N : Nat} {S : pm_S} {a : Nat} {p0 : Int32} {p1 : Int32} {p2 : Int32} {r : (Int32 × pm_S)} (h : F_M_metresAt N S a p0 p1 p2 = some r) : rcv S a 11 = true := by
  unfold F_M_metresAt at h
  by_cases c : rcv S a 11 = true
  · exact c
  · rw [if_neg c] at h; cases h
set_option maxHeartbeats 4000000 in
set_option maxRecDepth 20000 in
theorem f_M_metresAt (sp : pm_I → List Value → pm_S → pm_O → Prop) (d N : Nat) (S : pm_S) (a : Nat) (p0 : Int32) (p1 : Int32) (p2 : Int32) (r : (Int32 × pm_S)) (h : F_M_metresAt N S a p0 p1 p2 = some r) : pm_rel pG sp (d + 4) mi_M_metresAt [.ref a, .int p0, .int p1, .int p2] S (some (.int r.1), r.2) := by
  have hg := g_M_metresAt h
  unfold F_M_metresAt at h
  rw [if_pos hg] at h
  refine pE_rel (d := d + 3) ?_
  show pmE pG _ mi_M_metresAt 0 [some (.ref a), some (.int p0), some (.int p1), some (.int p2), none, none, none, none, none, none, none] [] S _
  refine pE_jump 3 (pc' := 4) (ls' := [some (.ref a), some (.int p0), some (.int p1), some (.int p2), some (.int p0), none, none, none, none, none, none]) (st' := [.int p2]) (fun _ => rfl) ?_
  refine pE_br (¬ p2 = 0) rfl rfl (fun c32 => ?_) (fun c32 => ?_)
  · rw [if_neg c32] at h
    refine pE_jump 3 (pc' := 14) (ls' := [some (.ref a), some (.int p0), some (.int p1), some (.int p2), some (.int p0), none, none, none, none, none, none]) (st' := [.int p1, .int p0, .ref a]) (fun _ => rfl) ?_
    obtain ⟨⟨v31, S30⟩, hv31, h⟩ := obind h
    try dsimp only at h
    refine pE_iv (Bs := [.int p0, .int p1]) (st := []) 1 rfl (Or.inl ⟨rfl, rfl⟩) rfl rfl (Nat.le_of_ble_eq_true rfl) (Nat.le_of_ble_eq_true rfl) (g_M_cameAs hv31) (f_M_cameAs sp (d + 2) N S a p0 p1 _ hv31) ?_
    refine pE_weak [some (.ref a), none, none, some (.int p2), some (.int p0), none, none, none, none, none, none] ⟨rfl, ⟨rfl, ⟨rfl, trivial⟩⟩⟩ ?_
    exact f_M_metresAt_17 sp d N a p2 p0 v31 S30 _ h
  · have c32 := Decidable.not_not.mp c32
    rw [if_pos c32] at h
    refine pE_jump 2 (pc' := 17) (ls' := [some (.ref a), some (.int p0), some (.int p1), some (.int p2), some (.int p0), none, none, none, none, none, none]) (st' := [.int p1]) (fun _ => rfl) ?_
    refine pE_weak [some (.ref a), none, none, some (.int p2), some (.int p0), none, none, none, none, none, none] ⟨rfl, ⟨rfl, ⟨rfl, trivial⟩⟩⟩ ?_
    exact f_M_metresAt_17 sp d N a p2 p0 p1 S _ h
def F_M_metres_34 (N : Nat)   (S : pm_S) : Option (Int32 × pm_S) :=
    some ((-1), S)
set_option maxHeartbeats 4000000 in
set_option maxRecDepth 20000 in
theorem f_M_metres_34 (sp : pm_I → List Value → pm_S → pm_O → Prop) (d N : Nat)   (S : pm_S)  (r : (Int32 × pm_S)) (h : F_M_metres_34 N   S = some r) : pmE pG (pm_rel pG sp (d + 4)) mi_M_metres 34 [none, none, none, none, none, none, none] [] S (some (.int r.1), r.2) := by
  unfold F_M_metres_34 at h
  refine pE_jump 1 (pc' := 35) (ls' := [none, none, none, none, none, none, none]) (st' := [.int (-1)]) (fun _ => rfl) ?_
  cases h
  exact pE_ret rfl rfl rfl
def F_M_metres (N : Nat) (S : pm_S) (a : Nat) (p0 : Int32) (p1 : Int32) (p2 : Int32) (p3 : Int32) (p4 : Int32) (p5 : Int32) : Option (Int32 × pm_S) :=
    if rcv S a 11 = true then
    ((wF S a 11 0 .int (.int 0)).bind fun S1 =>
    (F_M_isWorld N S1 a p0 p1).bind fun (v3, S2) =>
    if v3 = 0 then
    F_M_metres_34 N S2
    else
    ((F_M_isPair N S2 a p0 p3 p4).bind fun (v5, S4) =>
    if v5 = 0 then
    F_M_metres_34 N S4
    else
    ((F_M_isEnd N S4 p5).bind fun (v7, S6) =>
    if v7 = 0 then
    F_M_metres_34 N S6
    else
    ((F_M_lay N S6 a p0 p1 p2).bind fun S8 =>
    (F_M_metresAt N S8 a p3 p4 p5).bind fun (v10, S9) =>
    some (v10, S9)))))
    else none
theorem g_M_metres {N : Nat} {S : pm_S} {a : Nat} {p0 : Int32} {p1 : Int32} {p2 : Int32} {p3 : Int32} {p4 : Int32} {p5 : Int32} {r : (Int32 × pm_S)} (h : F_M_metres N S a p0 p1 p2 p3 p4 p5 = some r) : rcv S a 11 = true := by
  unfold F_M_metres at h
  by_cases c : rcv S a 11 = true
  · exact c
  · rw [if_neg c] at h; cases h
set_option maxHeartbeats 4000000 in
set_option maxRecDepth 20000 in
theorem f_M_metres (sp : pm_I → List Value → pm_S → pm_O → Prop) (d N : Nat) (S : pm_S) (a : Nat) (p0 : Int32) (p1 : Int32) (p2 : Int32) (p3 : Int32) (p4 : Int32) (p5 : Int32) (r : (Int32 × pm_S)) (h : F_M_metres N S a p0 p1 p2 p3 p4 p5 = some r) : pm_rel pG sp (d + 5) mi_M_metres [.ref a, .int p0, .int p1, .int p2, .int p3, .int p4, .int p5] S (some (.int r.1), r.2) := by
  have hg := g_M_metres h
  unfold F_M_metres at h
  rw [if_pos hg] at h
  refine pE_rel (d := d + 4) ?_
  show pmE pG _ mi_M_metres 0 [some (.ref a), some (.int p0), some (.int p1), some (.int p2), some (.int p3), some (.int p4), some (.int p5)] [] S _
  refine pE_jump 2 (pc' := 2) (ls' := [some (.ref a), some (.int p0), some (.int p1), some (.int p2), some (.int p3), some (.int p4), some (.int p5)]) (st' := [.int 0, .ref a]) (fun _ => rfl) ?_
  obtain ⟨S1, hS1, h⟩ := obind h
  refine pE_pf rfl rfl rfl hS1 ?_
  refine pE_jump 3 (pc' := 8) (ls' := [some (.ref a), some (.int p0), some (.int p1), some (.int p2), some (.int p3), some (.int p4), some (.int p5)]) (st' := [.int p1, .int p0, .ref a]) (fun _ => rfl) ?_
  obtain ⟨⟨v3, S2⟩, hv3, h⟩ := obind h
  try dsimp only at h
  refine pE_iv (Bs := [.int p0, .int p1]) (st := []) 1 rfl (Or.inl ⟨rfl, rfl⟩) rfl rfl (Nat.le_of_ble_eq_true rfl) (Nat.le_of_ble_eq_true rfl) (g_M_isWorld hv3) (f_M_isWorld sp (d + 2) N S1 a p0 p1 _ hv3) ?_
  refine pE_br (v3 = 0) rfl rfl (fun c13 => ?_) (fun c13 => ?_)
  · rw [if_pos c13] at h
    refine pE_weak [none, none, none, none, none, none, none] trivial ?_
    exact f_M_metres_34 sp d N S2 _ h
  · rw [if_neg c13] at h
    refine pE_jump 4 (pc' := 20) (ls' := [some (.ref a), some (.int p0), some (.int p1), some (.int p2), some (.int p3), some (.int p4), some (.int p5)]) (st' := [.int p4, .int p3, .int p0, .ref a]) (fun _ => rfl) ?_
    obtain ⟨⟨v5, S4⟩, hv5, h⟩ := obind h
    try dsimp only at h
    refine pE_iv (Bs := [.int p0, .int p3, .int p4]) (st := []) 1 rfl (Or.inl ⟨rfl, rfl⟩) rfl rfl (Nat.le_of_ble_eq_true rfl) (Nat.le_of_ble_eq_true rfl) (g_M_isPair hv5) (f_M_isPair sp (d + 1) N S2 a p0 p3 p4 _ hv5) ?_
    refine pE_br (v5 = 0) rfl rfl (fun c12 => ?_) (fun c12 => ?_)
    · rw [if_pos c12] at h
      refine pE_weak [none, none, none, none, none, none, none] trivial ?_
      exact f_M_metres_34 sp d N S4 _ h
    · rw [if_neg c12] at h
      refine pE_jump 1 (pc' := 28) (ls' := [some (.ref a), some (.int p0), some (.int p1), some (.int p2), some (.int p3), some (.int p4), some (.int p5)]) (st' := [.int p5]) (fun _ => rfl) ?_
      obtain ⟨⟨v7, S6⟩, hv7, h⟩ := obind h
      try dsimp only at h
      refine pE_is (Bs := [.int p5]) (st := []) rfl rfl rfl (Nat.le_of_ble_eq_true rfl) (Nat.le_of_ble_eq_true rfl) (f_M_isEnd sp (d + 2) N S4 p5 _ hv7) ?_
      refine pE_br (¬ v7 = 0) rfl rfl (fun c11 => ?_) (fun c11 => ?_)
      · rw [if_neg c11] at h
        refine pE_jump 4 (pc' := 40) (ls' := [some (.ref a), some (.int p0), some (.int p1), some (.int p2), some (.int p3), some (.int p4), some (.int p5)]) (st' := [.int p2, .int p1, .int p0, .ref a]) (fun _ => rfl) ?_
        obtain ⟨S8, hS8, h⟩ := obind h
        refine pE_iv (Bs := [.int p0, .int p1, .int p2]) (st := []) 1 rfl (Or.inl ⟨rfl, rfl⟩) rfl rfl (Nat.le_of_ble_eq_true rfl) (Nat.le_of_ble_eq_true rfl) (g_M_lay hS8) (f_M_lay sp (d + 1) N S6 a p0 p1 p2 _ hS8) ?_
        refine pE_jump 4 (pc' := 50) (ls' := [some (.ref a), some (.int p0), some (.int p1), some (.int p2), some (.int p3), some (.int p4), some (.int p5)]) (st' := [.int p5, .int p4, .int p3, .ref a]) (fun _ => rfl) ?_
        obtain ⟨⟨v10, S9⟩, hv10, h⟩ := obind h
        try dsimp only at h
        refine pE_iv (Bs := [.int p3, .int p4, .int p5]) (st := []) 1 rfl (Or.inl ⟨rfl, rfl⟩) rfl rfl (Nat.le_of_ble_eq_true rfl) (Nat.le_of_ble_eq_true rfl) (g_M_metresAt hv10) (f_M_metresAt sp d N S8 a p3 p4 p5 _ hv10) ?_
        cases h
        exact pE_ret rfl rfl rfl
      · have c11 := Decidable.not_not.mp c11
        rw [if_pos c11] at h
        refine pE_weak [none, none, none, none, none, none, none] trivial ?_
        exact f_M_metres_34 sp d N S6 _ h
def F_M_joint_61 (N : Nat)  (t0 : Int32) (S : pm_S) : Option (Int32 × pm_S) :=
    some (t0, S)
set_option maxHeartbeats 4000000 in
set_option maxRecDepth 20000 in
theorem f_M_joint_61 (sp : pm_I → List Value → pm_S → pm_O → Prop) (d N : Nat)  (t0 : Int32) (S : pm_S)  (r : (Int32 × pm_S)) (h : F_M_joint_61 N  t0 S = some r) : pmE pG (pm_rel pG sp (d + 3)) mi_M_joint 61 [none, none, none, none, none] [.int t0] S (some (.int r.1), r.2) := by
  unfold F_M_joint_61 at h
  cases h
  exact pE_ret rfl rfl rfl
def F_M_joint (N : Nat) (S : pm_S) (a : Nat) (p0 : Int32) (p1 : Int32) (p2 : Int32) : Option (Int32 × pm_S) :=
    if rcv S a 11 = true then
    ((wF S a 11 0 .int (.int 0)).bind fun S1 =>
    (F_M_isPair N S1 a p0 p1 p2).bind fun (v3, S2) =>
    if v3 = 0 then
    some ((-1), S2)
    else
    ((F_M_lay N S2 a p0 0 0).bind fun S4 =>
    (oR S4 a 11 26).bind fun oq5 => match oq5 with
    | none => none
    | some q5 =>
    (aI [0, 6] S4 q5 ((6 * p1) + p2)).bind fun v6 =>
    if v6 = (-1) then
    F_M_joint_61 N (-1) S4
    else
    F_M_joint_61 N ((8 * (v6 / 6)) + (v6 - v6 / 6 * 6)) S4))
    else none
theorem g_M_joint {N : Nat} {S : pm_S} {a : Nat} {p0 : Int32} {p1 : Int32} {p2 : Int32} {r : (Int32 × pm_S)} (h : F_M_joint N S a p0 p1 p2 = some r) : rcv S a 11 = true := by
  unfold F_M_joint at h
  by_cases c : rcv S a 11 = true
  · exact c
  · rw [if_neg c] at h; cases h
set_option maxHeartbeats 4000000 in
set_option maxRecDepth 20000 in
theorem f_M_joint (sp : pm_I → List Value → pm_S → pm_O → Prop) (d N : Nat) (S : pm_S) (a : Nat) (p0 : Int32) (p1 : Int32) (p2 : Int32) (r : (Int32 × pm_S)) (h : F_M_joint N S a p0 p1 p2 = some r) : pm_rel pG sp (d + 4) mi_M_joint [.ref a, .int p0, .int p1, .int p2] S (some (.int r.1), r.2) := by
  have hg := g_M_joint h
  unfold F_M_joint at h
  rw [if_pos hg] at h
  refine pE_rel (d := d + 3) ?_
  show pmE pG _ mi_M_joint 0 [some (.ref a), some (.int p0), some (.int p1), some (.int p2), none] [] S _
  refine pE_jump 2 (pc' := 2) (ls' := [some (.ref a), some (.int p0), some (.int p1), some (.int p2), none]) (st' := [.int 0, .ref a]) (fun _ => rfl) ?_
  obtain ⟨S1, hS1, h⟩ := obind h
  refine pE_pf rfl rfl rfl hS1 ?_
  refine pE_jump 4 (pc' := 9) (ls' := [some (.ref a), some (.int p0), some (.int p1), some (.int p2), none]) (st' := [.int p2, .int p1, .int p0, .ref a]) (fun _ => rfl) ?_
  obtain ⟨⟨v3, S2⟩, hv3, h⟩ := obind h
  try dsimp only at h
  refine pE_iv (Bs := [.int p0, .int p1, .int p2]) (st := []) 1 rfl (Or.inl ⟨rfl, rfl⟩) rfl rfl (Nat.le_of_ble_eq_true rfl) (Nat.le_of_ble_eq_true rfl) (g_M_isPair hv3) (f_M_isPair sp d N S1 a p0 p1 p2 _ hv3) ?_
  refine pE_br (¬ v3 = 0) rfl rfl (fun c8 => ?_) (fun c8 => ?_)
  · rw [if_neg c8] at h
    refine pE_jump 4 (pc' := 21) (ls' := [some (.ref a), some (.int p0), some (.int p1), some (.int p2), none]) (st' := [.int 0, .int 0, .int p0, .ref a]) (fun _ => rfl) ?_
    obtain ⟨S4, hS4, h⟩ := obind h
    refine pE_iv (Bs := [.int p0, .int 0, .int 0]) (st := []) 1 rfl (Or.inl ⟨rfl, rfl⟩) rfl rfl (Nat.le_of_ble_eq_true rfl) (Nat.le_of_ble_eq_true rfl) (g_M_lay hS4) (f_M_lay sp d N S2 a p0 0 0 _ hS4) ?_
    refine pE_jump 1 (pc' := 25) (ls' := [some (.ref a), some (.int p0), some (.int p1), some (.int p2), none]) (st' := [.ref a]) (fun _ => rfl) ?_
    obtain ⟨oq5, hq5, h⟩ := obind h
    cases oq5 with
    | none => cases h
    | some q5 =>
      try dsimp only at h
      refine pE_gfS rfl rfl hq5 ?_
      refine pE_jump 5 (pc' := 34) (ls' := [some (.ref a), some (.int p0), some (.int p1), some (.int p2), none]) (st' := [.int ((6 * p1) + p2), .ref q5]) (fun _ => rfl) ?_
      obtain ⟨v6, hv6, h⟩ := obind h
      refine pE_aI rfl rfl hv6 ?_
      refine pE_jump 3 (pc' := 40) (ls' := [some (.ref a), some (.int p0), some (.int p1), some (.int p2), some (.int v6)]) (st' := [.int (-1), .int v6]) (fun _ => rfl) ?_
      refine pE_br (¬ v6 = (-1)) rfl rfl (fun c7 => ?_) (fun c7 => ?_)
      · rw [if_neg c7] at h
        refine pE_jump 3 (pc' := 53) (ls' := [some (.ref a), some (.int p0), some (.int p1), some (.int p2), some (.int v6)]) (st' := [.int 6, .int v6, .int 8]) (fun _ => rfl) ?_
        refine pE_jump 1 (pc' := 54) (ls' := [some (.ref a), some (.int p0), some (.int p1), some (.int p2), some (.int v6)]) (st' := [.int (v6 / 6), .int 8]) (fun _ => rfl) ?_
        refine pE_jump 3 (pc' := 59) (ls' := [some (.ref a), some (.int p0), some (.int p1), some (.int p2), some (.int v6)]) (st' := [.int 6, .int v6, .int (8 * (v6 / 6))]) (fun _ => rfl) ?_
        refine pE_jump 1 (pc' := 60) (ls' := [some (.ref a), some (.int p0), some (.int p1), some (.int p2), some (.int v6)]) (st' := [.int (v6 - v6 / 6 * 6), .int (8 * (v6 / 6))]) (fun _ => rfl) ?_
        refine pE_jump 1 (pc' := 61) (ls' := [some (.ref a), some (.int p0), some (.int p1), some (.int p2), some (.int v6)]) (st' := [.int ((8 * (v6 / 6)) + (v6 - v6 / 6 * 6))]) (fun _ => rfl) ?_
        refine pE_weak [none, none, none, none, none] trivial ?_
        exact f_M_joint_61 sp d N ((8 * (v6 / 6)) + (v6 - v6 / 6 * 6)) S4 _ h
      · have c7 := Decidable.not_not.mp c7
        rw [if_pos c7] at h
        refine pE_jump 2 (pc' := 61) (ls' := [some (.ref a), some (.int p0), some (.int p1), some (.int p2), some (.int v6)]) (st' := [.int (-1)]) (fun _ => rfl) ?_
        refine pE_weak [none, none, none, none, none] trivial ?_
        exact f_M_joint_61 sp d N (-1) S4 _ h
  · have c8 := Decidable.not_not.mp c8
    rw [if_pos c8] at h
    refine pE_jump 1 (pc' := 16) (ls' := [some (.ref a), some (.int p0), some (.int p1), some (.int p2), none]) (st' := [.int (-1)]) (fun _ => rfl) ?_
    cases h
    exact pE_ret rfl rfl rfl
def F_M_isNumberOfHouse (N : Nat) (S : pm_S) (p0 : Int32) : Option (Int32 × pm_S) :=
    (F_M_isIn N S p0 0 9).bind fun (v2, S1) =>
    if v2 = 0 ∨ v2 = 1 then some (v2, S1) else none
set_option maxHeartbeats 4000000 in
set_option maxRecDepth 20000 in
theorem f_M_isNumberOfHouse (sp : pm_I → List Value → pm_S → pm_O → Prop) (d N : Nat) (S : pm_S) (p0 : Int32) (r : (Int32 × pm_S)) (h : F_M_isNumberOfHouse N S p0 = some r) : pm_rel pG sp (d + 2) mi_M_isNumberOfHouse [.int p0] S (some (.int r.1), r.2) := by
  unfold F_M_isNumberOfHouse at h
  refine pE_rel (d := d + 1) ?_
  show pmE pG _ mi_M_isNumberOfHouse 0 [some (.int p0)] [] S _
  refine pE_jump 3 (pc' := 4) (ls' := [some (.int p0)]) (st' := [.int 9, .int 0, .int p0]) (fun _ => rfl) ?_
  obtain ⟨⟨v2, S1⟩, hv2, h⟩ := obind h
  try dsimp only at h
  refine pE_is (Bs := [.int p0, .int 0, .int 9]) (st := []) rfl rfl rfl (Nat.le_of_ble_eq_true rfl) (Nat.le_of_ble_eq_true rfl) (f_M_isIn sp d N S p0 0 9 _ hv2) ?_
  by_cases c3 : v2 = 0 ∨ v2 = 1
  · rw [if_pos c3] at h
    cases h
    exact pE_ret rfl (if_pos c3) rfl
  · rw [if_neg c3] at h
    cases h
def F_M_hangsAt_26 (N : Nat)   (S : pm_S) : Option (Int32 × pm_S) :=
    some ((-1), S)
set_option maxHeartbeats 4000000 in
set_option maxRecDepth 20000 in
theorem f_M_hangsAt_26 (sp : pm_I → List Value → pm_S → pm_O → Prop) (d N : Nat)   (S : pm_S)  (r : (Int32 × pm_S)) (h : F_M_hangsAt_26 N   S = some r) : pmE pG (pm_rel pG sp (d + 0)) mi_M_hangsAt 26 [none, none, none] [] S (some (.int r.1), r.2) := by
  unfold F_M_hangsAt_26 at h
  refine pE_jump 1 (pc' := 27) (ls' := [none, none, none]) (st' := [.int (-1)]) (fun _ => rfl) ?_
  cases h
  exact pE_ret rfl rfl rfl
def F_M_hangsAt_18 (N : Nat)  (x2 : Int32) (S : pm_S) : Option (Int32 × pm_S) :=
    some (x2, S)
set_option maxHeartbeats 4000000 in
set_option maxRecDepth 20000 in
theorem f_M_hangsAt_18 (sp : pm_I → List Value → pm_S → pm_O → Prop) (d N : Nat)  (x2 : Int32) (S : pm_S)  (r : (Int32 × pm_S)) (h : F_M_hangsAt_18 N  x2 S = some r) : pmE pG (pm_rel pG sp (d + 0)) mi_M_hangsAt 18 [none, none, some (.int x2)] [] S (some (.int r.1), r.2) := by
  unfold F_M_hangsAt_18 at h
  refine pE_jump 1 (pc' := 19) (ls' := [none, none, some (.int x2)]) (st' := [.int x2]) (fun _ => rfl) ?_
  cases h
  exact pE_ret rfl rfl rfl
def B_M_hangsAt_2 (N : Nat)  (rec2 : Int32 → pm_S → Option (Int32 × pm_S)) (x0 : Nat) (x1 : Int32) (x2 : Int32) (S : pm_S) : Option (Int32 × pm_S) :=
    if 42 ≤ x2 then
    F_M_hangsAt_26 N S
    else
    ((oR S x0 11 27).bind fun oq1 => match oq1 with
    | none => none
    | some q1 =>
    (aI [0, 6] S q1 x2).bind fun v2 =>
    if v2 = x1 then
    F_M_hangsAt_18 N x2 S
    else
    rec2 (x2 + 1) S)
def F_M_hangsAt_2 (N : Nat)  (x0 : Nat) (x1 : Int32) : Nat → Int32 → pm_S → Option (Int32 × pm_S)
  | 0 => fun _ _ => none
  | n + 1 => fun x2 S => B_M_hangsAt_2 N  (F_M_hangsAt_2 N  x0 x1 n) x0 x1 x2 S
set_option maxHeartbeats 4000000 in
set_option maxRecDepth 20000 in
theorem f_M_hangsAt_2 (sp : pm_I → List Value → pm_S → pm_O → Prop) (d N : Nat)  (x0 : Nat) (x1 : Int32)  : ∀ (n : Nat) (x2 : Int32) (S : pm_S) (r : (Int32 × pm_S)), F_M_hangsAt_2 N  x0 x1 n x2 S = some r → pmE pG (pm_rel pG sp (d + 0)) mi_M_hangsAt 2 [some (.ref x0), some (.int x1), some (.int x2)] [] S (some (.int r.1), r.2) := by
  intro n
  induction n with
  | zero =>
    intro x2 S r h
    cases h
  | succ n ih =>
    intro x2 S r h
    replace h : B_M_hangsAt_2 N  (F_M_hangsAt_2 N  x0 x1 n) x0 x1 x2 S = some r := h
    have hrec2 := ih
    generalize F_M_hangsAt_2 N  x0 x1 n = rec2 at h hrec2
    unfold B_M_hangsAt_2 at h
    refine pE_jump 2 (pc' := 5) (ls' := [some (.ref x0), some (.int x1), some (.int x2)]) (st' := [.int 42, .int x2]) (fun _ => rfl) ?_
    refine pE_br (42 ≤ x2) rfl rfl (fun c4 => ?_) (fun c4 => ?_)
    · rw [if_pos c4] at h
      refine pE_weak [none, none, none] trivial ?_
      exact f_M_hangsAt_26 sp d N S _ h
    · rw [if_neg c4] at h
      refine pE_jump 1 (pc' := 9) (ls' := [some (.ref x0), some (.int x1), some (.int x2)]) (st' := [.ref x0]) (fun _ => rfl) ?_
      obtain ⟨oq1, hq1, h⟩ := obind h
      cases oq1 with
      | none => cases h
      | some q1 =>
        try dsimp only at h
        refine pE_gfS rfl rfl hq1 ?_
        refine pE_jump 1 (pc' := 13) (ls' := [some (.ref x0), some (.int x1), some (.int x2)]) (st' := [.int x2, .ref q1]) (fun _ => rfl) ?_
        obtain ⟨v2, hv2, h⟩ := obind h
        refine pE_aI rfl rfl hv2 ?_
        refine pE_jump 1 (pc' := 15) (ls' := [some (.ref x0), some (.int x1), some (.int x2)]) (st' := [.int x1, .int v2]) (fun _ => rfl) ?_
        refine pE_br (¬ v2 = x1) rfl rfl (fun c3 => ?_) (fun c3 => ?_)
        · rw [if_neg c3] at h
          refine pE_jump 2 (pc' := 2) (ls' := [some (.ref x0), some (.int x1), some (.int (x2 + 1))]) (st' := []) (fun _ => rfl) ?_
          exact hrec2 (x2 + 1) S _ h
        · have c3 := Decidable.not_not.mp c3
          rw [if_pos c3] at h
          refine pE_weak [none, none, some (.int x2)] ⟨rfl, trivial⟩ ?_
          exact f_M_hangsAt_18 sp d N x2 S _ h
def F_M_hangsAt (N : Nat) (S : pm_S) (a : Nat) (p0 : Int32) : Option (Int32 × pm_S) :=
    if rcv S a 11 = true then
    (F_M_hangsAt_2 N a p0 N 0 S)
    else none
theorem g_M_hangsAt {N : Nat} {S : pm_S} {a : Nat} {p0 : Int32} {r : (Int32 × pm_S)} (h : F_M_hangsAt N S a p0 = some r) : rcv S a 11 = true := by
  unfold F_M_hangsAt at h
  by_cases c : rcv S a 11 = true
  · exact c
  · rw [if_neg c] at h; cases h
set_option maxHeartbeats 4000000 in
set_option maxRecDepth 20000 in
theorem f_M_hangsAt (sp : pm_I → List Value → pm_S → pm_O → Prop) (d N : Nat) (S : pm_S) (a : Nat) (p0 : Int32) (r : (Int32 × pm_S)) (h : F_M_hangsAt N S a p0 = some r) : pm_rel pG sp (d + 1) mi_M_hangsAt [.ref a, .int p0] S (some (.int r.1), r.2) := by
  have hg := g_M_hangsAt h
  unfold F_M_hangsAt at h
  rw [if_pos hg] at h
  refine pE_rel (d := d + 0) ?_
  show pmE pG _ mi_M_hangsAt 0 [some (.ref a), some (.int p0), none] [] S _
  refine pE_jump 2 (pc' := 2) (ls' := [some (.ref a), some (.int p0), some (.int 0)]) (st' := []) (fun _ => rfl) ?_
  exact f_M_hangsAt_2 sp d N a p0 N 0 S _ h
def F_M_house_20 (N : Nat)   (S : pm_S) : Option (Int32 × pm_S) :=
    some ((-1), S)
set_option maxHeartbeats 4000000 in
set_option maxRecDepth 20000 in
theorem f_M_house_20 (sp : pm_I → List Value → pm_S → pm_O → Prop) (d N : Nat)   (S : pm_S)  (r : (Int32 × pm_S)) (h : F_M_house_20 N   S = some r) : pmE pG (pm_rel pG sp (d + 3)) mi_M_house 20 [none, none, none, none] [] S (some (.int r.1), r.2) := by
  unfold F_M_house_20 at h
  refine pE_jump 1 (pc' := 21) (ls' := [none, none, none, none]) (st' := [.int (-1)]) (fun _ => rfl) ?_
  cases h
  exact pE_ret rfl rfl rfl
def F_M_house_56 (N : Nat)  (t0 : Int32) (S : pm_S) : Option (Int32 × pm_S) :=
    some (t0, S)
set_option maxHeartbeats 4000000 in
set_option maxRecDepth 20000 in
theorem f_M_house_56 (sp : pm_I → List Value → pm_S → pm_O → Prop) (d N : Nat)  (t0 : Int32) (S : pm_S)  (r : (Int32 × pm_S)) (h : F_M_house_56 N  t0 S = some r) : pmE pG (pm_rel pG sp (d + 3)) mi_M_house 56 [none, none, none, none] [.int t0] S (some (.int r.1), r.2) := by
  unfold F_M_house_56 at h
  cases h
  exact pE_ret rfl rfl rfl
def F_M_house (N : Nat) (S : pm_S) (a : Nat) (p0 : Int32) (p1 : Int32) : Option (Int32 × pm_S) :=
    if rcv S a 11 = true then
    ((wF S a 11 0 .int (.int 0)).bind fun S1 =>
    (F_M_isPlan N S1 a p0).bind fun (v3, S2) =>
    if v3 = 0 then
    F_M_house_20 N S2
    else
    ((F_M_isNumberOfHouse N S2 p1).bind fun (v5, S4) =>
    if v5 = 0 then
    F_M_house_20 N S4
    else
    ((F_M_lay N S4 a p0 0 0).bind fun S6 =>
    (F_M_hangsAt N S6 a p1).bind fun (v8, S7) =>
    if v8 = (-1) then
    F_M_house_56 N (-1) S7
    else
    F_M_house_56 N ((8 * (v8 / 6)) + (v8 - v8 / 6 * 6)) S7)))
    else none
theorem g_M_house {N : Nat} {S : pm_S} {a : Nat} {p0 : Int32} {p1 : Int32} {r : (Int32 × pm_S)} (h : F_M_house N S a p0 p1 = some r) : rcv S a 11 = true := by
  unfold F_M_house at h
  by_cases c : rcv S a 11 = true
  · exact c
  · rw [if_neg c] at h; cases h
set_option maxHeartbeats 4000000 in
set_option maxRecDepth 20000 in
theorem f_M_house (sp : pm_I → List Value → pm_S → pm_O → Prop) (d N : Nat) (S : pm_S) (a : Nat) (p0 : Int32) (p1 : Int32) (r : (Int32 × pm_S)) (h : F_M_house N S a p0 p1 = some r) : pm_rel pG sp (d + 4) mi_M_house [.ref a, .int p0, .int p1] S (some (.int r.1), r.2) := by
  have hg := g_M_house h
  unfold F_M_house at h
  rw [if_pos hg] at h
  refine pE_rel (d := d + 3) ?_
  show pmE pG _ mi_M_house 0 [some (.ref a), some (.int p0), some (.int p1), none] [] S _
  refine pE_jump 2 (pc' := 2) (ls' := [some (.ref a), some (.int p0), some (.int p1), none]) (st' := [.int 0, .ref a]) (fun _ => rfl) ?_
  obtain ⟨S1, hS1, h⟩ := obind h
  refine pE_pf rfl rfl rfl hS1 ?_
  refine pE_jump 2 (pc' := 7) (ls' := [some (.ref a), some (.int p0), some (.int p1), none]) (st' := [.int p0, .ref a]) (fun _ => rfl) ?_
  obtain ⟨⟨v3, S2⟩, hv3, h⟩ := obind h
  try dsimp only at h
  refine pE_iv (Bs := [.int p0]) (st := []) 1 rfl (Or.inl ⟨rfl, rfl⟩) rfl rfl (Nat.le_of_ble_eq_true rfl) (Nat.le_of_ble_eq_true rfl) (g_M_isPlan hv3) (f_M_isPlan sp (d + 2) N S1 a p0 _ hv3) ?_
  refine pE_br (v3 = 0) rfl rfl (fun c11 => ?_) (fun c11 => ?_)
  · rw [if_pos c11] at h
    refine pE_weak [none, none, none, none] trivial ?_
    exact f_M_house_20 sp d N S2 _ h
  · rw [if_neg c11] at h
    refine pE_jump 1 (pc' := 14) (ls' := [some (.ref a), some (.int p0), some (.int p1), none]) (st' := [.int p1]) (fun _ => rfl) ?_
    obtain ⟨⟨v5, S4⟩, hv5, h⟩ := obind h
    try dsimp only at h
    refine pE_is (Bs := [.int p1]) (st := []) rfl rfl rfl (Nat.le_of_ble_eq_true rfl) (Nat.le_of_ble_eq_true rfl) (f_M_isNumberOfHouse sp (d + 1) N S2 p1 _ hv5) ?_
    refine pE_br (¬ v5 = 0) rfl rfl (fun c10 => ?_) (fun c10 => ?_)
    · rw [if_neg c10] at h
      refine pE_jump 4 (pc' := 26) (ls' := [some (.ref a), some (.int p0), some (.int p1), none]) (st' := [.int 0, .int 0, .int p0, .ref a]) (fun _ => rfl) ?_
      obtain ⟨S6, hS6, h⟩ := obind h
      refine pE_iv (Bs := [.int p0, .int 0, .int 0]) (st := []) 1 rfl (Or.inl ⟨rfl, rfl⟩) rfl rfl (Nat.le_of_ble_eq_true rfl) (Nat.le_of_ble_eq_true rfl) (g_M_lay hS6) (f_M_lay sp d N S4 a p0 0 0 _ hS6) ?_
      refine pE_jump 2 (pc' := 31) (ls' := [some (.ref a), some (.int p0), some (.int p1), none]) (st' := [.int p1, .ref a]) (fun _ => rfl) ?_
      obtain ⟨⟨v8, S7⟩, hv8, h⟩ := obind h
      try dsimp only at h
      refine pE_iv (Bs := [.int p1]) (st := []) 1 rfl (Or.inl ⟨rfl, rfl⟩) rfl rfl (Nat.le_of_ble_eq_true rfl) (Nat.le_of_ble_eq_true rfl) (g_M_hangsAt hv8) (f_M_hangsAt sp (d + 2) N S6 a p1 _ hv8) ?_
      refine pE_jump 3 (pc' := 37) (ls' := [some (.ref a), some (.int p0), some (.int p1), some (.int v8)]) (st' := [.int (-1), .int v8]) (fun _ => rfl) ?_
      refine pE_br (¬ v8 = (-1)) rfl rfl (fun c9 => ?_) (fun c9 => ?_)
      · rw [if_neg c9] at h
        refine pE_jump 3 (pc' := 49) (ls' := [some (.ref a), some (.int p0), some (.int p1), some (.int v8)]) (st' := [.int 6, .int v8, .int 8]) (fun _ => rfl) ?_
        refine pE_jump 1 (pc' := 50) (ls' := [some (.ref a), some (.int p0), some (.int p1), some (.int v8)]) (st' := [.int (v8 / 6), .int 8]) (fun _ => rfl) ?_
        refine pE_jump 3 (pc' := 54) (ls' := [some (.ref a), some (.int p0), some (.int p1), some (.int v8)]) (st' := [.int 6, .int v8, .int (8 * (v8 / 6))]) (fun _ => rfl) ?_
        refine pE_jump 1 (pc' := 55) (ls' := [some (.ref a), some (.int p0), some (.int p1), some (.int v8)]) (st' := [.int (v8 - v8 / 6 * 6), .int (8 * (v8 / 6))]) (fun _ => rfl) ?_
        refine pE_jump 1 (pc' := 56) (ls' := [some (.ref a), some (.int p0), some (.int p1), some (.int v8)]) (st' := [.int ((8 * (v8 / 6)) + (v8 - v8 / 6 * 6))]) (fun _ => rfl) ?_
        refine pE_weak [none, none, none, none] trivial ?_
        exact f_M_house_56 sp d N ((8 * (v8 / 6)) + (v8 - v8 / 6 * 6)) S7 _ h
      · have c9 := Decidable.not_not.mp c9
        rw [if_pos c9] at h
        refine pE_jump 2 (pc' := 56) (ls' := [some (.ref a), some (.int p0), some (.int p1), some (.int v8)]) (st' := [.int (-1)]) (fun _ => rfl) ?_
        refine pE_weak [none, none, none, none] trivial ?_
        exact f_M_house_56 sp d N (-1) S7 _ h
    · have c10 := Decidable.not_not.mp c10
      rw [if_pos c10] at h
      refine pE_weak [none, none, none, none] trivial ?_
      exact f_M_house_20 sp d N S4 _ h
def F_M_feeds_118 (N : Nat)  (x3 : Int64) (S : pm_S) : Option (Int64 × pm_S) :=
    some (x3, S)
set_option maxHeartbeats 4000000 in
set_option maxRecDepth 20000 in
theorem f_M_feeds_118 (sp : pm_I → List Value → pm_S → pm_O → Prop) (d N : Nat)  (x3 : Int64) (S : pm_S)  (r : (Int64 × pm_S)) (h : F_M_feeds_118 N  x3 S = some r) : pmE pG (pm_rel pG sp (d + 4)) mi_M_feeds 118 [none, none, none, some (.long x3), none, none, none, none] [] S (some (.long r.1), r.2) := by
  unfold F_M_feeds_118 at h
  refine pE_jump 1 (pc' := 119) (ls' := [none, none, none, some (.long x3), none, none, none, none]) (st' := [.long x3]) (fun _ => rfl) ?_
  cases h
  exact pE_ret rfl rfl rfl
def F_M_feeds_112 (N : Nat) (rec18 : Int64 → Int32 → Int32 → pm_S → Option (Int64 × pm_S)) (x0 : Nat) (x3 : Int64) (x5 : Int32) (x6 : Int32) (S : pm_S) : Option (Int64 × pm_S) :=
    rec18 x3 x5 (x6 + 1) S
set_option maxHeartbeats 4000000 in
set_option maxRecDepth 20000 in
theorem f_M_feeds_112 (sp : pm_I → List Value → pm_S → pm_O → Prop) (d N : Nat) (rec18 : Int64 → Int32 → Int32 → pm_S → Option (Int64 × pm_S)) (x0 : Nat) (x3 : Int64) (x5 : Int32) (x6 : Int32) (S : pm_S) (hrec18 : ∀ (y1 : Int64) (y2 : Int32) (y3 : Int32) (U : pm_S) (r : (Int64 × pm_S)), rec18 y1 y2 y3 U = some r → pmE pG (pm_rel pG sp (d + 4)) mi_M_feeds 18 [some (.ref x0), none, none, some (.long y1), none, some (.int y2), some (.int y3), none] [] U (some (.long r.1), r.2)) (r : (Int64 × pm_S)) (h : F_M_feeds_112 N rec18 x0 x3 x5 x6 S = some r) : pmE pG (pm_rel pG sp (d + 4)) mi_M_feeds 112 [some (.ref x0), none, none, some (.long x3), none, some (.int x5), some (.int x6), none] [] S (some (.long r.1), r.2) := by
  unfold F_M_feeds_112 at h
  refine pE_jump 2 (pc' := 18) (ls' := [some (.ref x0), none, none, some (.long x3), none, some (.int x5), some (.int (x6 + 1)), none]) (st' := []) (fun _ => rfl) ?_
  exact hrec18 x3 x5 (x6 + 1) S _ h
def F_M_feeds_101 (N : Nat) (rec18 : Int64 → Int32 → Int32 → pm_S → Option (Int64 × pm_S)) (rec56 : Int64 → Int32 → Int32 → pm_S → Option (Int64 × pm_S)) (x0 : Nat) (x5 : Int32) (x6 : Int32) (x7 : Int32) (t0 : Int64) (t1 : Int64) (S : pm_S) : Option (Int64 × pm_S) :=
    rec56 (t1 ||| t0) (x5 + 1) (x7 + 1) S
set_option maxHeartbeats 4000000 in
set_option maxRecDepth 20000 in
theorem f_M_feeds_101 (sp : pm_I → List Value → pm_S → pm_O → Prop) (d N : Nat) (rec18 : Int64 → Int32 → Int32 → pm_S → Option (Int64 × pm_S)) (rec56 : Int64 → Int32 → Int32 → pm_S → Option (Int64 × pm_S)) (x0 : Nat) (x5 : Int32) (x6 : Int32) (x7 : Int32) (t0 : Int64) (t1 : Int64) (S : pm_S) (hrec18 : ∀ (y1 : Int64) (y2 : Int32) (y3 : Int32) (U : pm_S) (r : (Int64 × pm_S)), rec18 y1 y2 y3 U = some r → pmE pG (pm_rel pG sp (d + 4)) mi_M_feeds 18 [some (.ref x0), none, none, some (.long y1), none, some (.int y2), some (.int y3), none] [] U (some (.long r.1), r.2)) (hrec56 : ∀ (y1 : Int64) (y2 : Int32) (y3 : Int32) (U : pm_S) (r : (Int64 × pm_S)), rec56 y1 y2 y3 U = some r → pmE pG (pm_rel pG sp (d + 4)) mi_M_feeds 56 [some (.ref x0), none, none, some (.long y1), none, some (.int y2), some (.int x6), some (.int y3)] [] U (some (.long r.1), r.2)) (r : (Int64 × pm_S)) (h : F_M_feeds_101 N rec18 rec56 x0 x5 x6 x7 t0 t1 S = some r) : pmE pG (pm_rel pG sp (d + 4)) mi_M_feeds 101 [some (.ref x0), none, none, none, none, some (.int x5), some (.int x6), some (.int x7)] [.long t0, .long t1] S (some (.long r.1), r.2) := by
  unfold F_M_feeds_101 at h
  refine pE_jump 5 (pc' := 56) (ls' := [some (.ref x0), none, none, some (.long (t1 ||| t0)), none, some (.int (x5 + 1)), some (.int x6), some (.int (x7 + 1))]) (st' := []) (fun _ => rfl) ?_
  exact hrec56 (t1 ||| t0) (x5 + 1) (x7 + 1) S _ h
def B_M_feeds_56 (N : Nat) (rec18 : Int64 → Int32 → Int32 → pm_S → Option (Int64 × pm_S)) (rec56 : Int64 → Int32 → Int32 → pm_S → Option (Int64 × pm_S)) (x0 : Nat) (x6 : Int32) (x3 : Int64) (x5 : Int32) (x7 : Int32) (S : pm_S) : Option (Int64 × pm_S) :=
    (oR S x0 11 10).bind fun oq12 => match oq12 with
    | none => none
    | some q12 =>
    (oI S x0 11 29).bind fun v14 =>
    (aI [0, 6] S q12 ((7 * v14) + x6)).bind fun v15 =>
    if v15 ≤ x7 then
    F_M_feeds_112 N rec18 x0 x3 x5 x6 S
    else
    ((oR S x0 11 35).bind fun oq16 => match oq16 with
    | none => none
    | some q16 =>
    (F_M_nearNode N S x0 x6 x7).bind fun (v20, S19) =>
    (aI [2, 3] S19 q16 v20).bind fun v21 =>
    if v21 = 0 then
    F_M_feeds_101 N rec18 rec56 x0 x5 x6 x7 0 x3 S19
    else
    F_M_feeds_101 N rec18 rec56 x0 x5 x6 x7 (1 <<< (Int32.toInt64 x5 &&& 63)) x3 S19)
def F_M_feeds_56 (N : Nat) (rec18 : Int64 → Int32 → Int32 → pm_S → Option (Int64 × pm_S)) (x0 : Nat) (x6 : Int32) : Nat → Int64 → Int32 → Int32 → pm_S → Option (Int64 × pm_S)
  | 0 => fun _ _ _ _ => none
  | n + 1 => fun x3 x5 x7 S => B_M_feeds_56 N rec18 (F_M_feeds_56 N rec18 x0 x6 n) x0 x6 x3 x5 x7 S
set_option maxHeartbeats 4000000 in
set_option maxRecDepth 20000 in
theorem f_M_feeds_56 (sp : pm_I → List Value → pm_S → pm_O → Prop) (d N : Nat) (rec18 : Int64 → Int32 → Int32 → pm_S → Option (Int64 × pm_S)) (x0 : Nat) (x6 : Int32) (hrec18 : ∀ (y1 : Int64) (y2 : Int32) (y3 : Int32) (U : pm_S) (r : (Int64 × pm_S)), rec18 y1 y2 y3 U = some r → pmE pG (pm_rel pG sp (d + 4)) mi_M_feeds 18 [some (.ref x0), none, none, some (.long y1), none, some (.int y2), some (.int y3), none] [] U (some (.long r.1), r.2)) : ∀ (n : Nat) (x3 : Int64) (x5 : Int32) (x7 : Int32) (S : pm_S) (r : (Int64 × pm_S)), F_M_feeds_56 N rec18 x0 x6 n x3 x5 x7 S = some r → pmE pG (pm_rel pG sp (d + 4)) mi_M_feeds 56 [some (.ref x0), none, none, some (.long x3), none, some (.int x5), some (.int x6), some (.int x7)] [] S (some (.long r.1), r.2) := by
  intro n
  induction n with
  | zero =>
    intro x3 x5 x7 S r h
    cases h
  | succ n ih =>
    intro x3 x5 x7 S r h
    replace h : B_M_feeds_56 N rec18 (F_M_feeds_56 N rec18 x0 x6 n) x0 x6 x3 x5 x7 S = some r := h
    have hrec56 := ih
    generalize F_M_feeds_56 N rec18 x0 x6 n = rec56 at h hrec56
    unfold B_M_feeds_56 at h
    refine pE_jump 2 (pc' := 59) (ls' := [some (.ref x0), none, none, some (.long x3), none, some (.int x5), some (.int x6), some (.int x7)]) (st' := [.ref x0, .int x7]) (fun _ => rfl) ?_
    obtain ⟨oq12, hq12, h⟩ := obind h
    cases oq12 with
    | none => cases h
    | some q12 =>
      try dsimp only at h
      refine pE_gfS rfl rfl hq12 ?_
      refine pE_jump 2 (pc' := 65) (ls' := [some (.ref x0), none, none, some (.long x3), none, some (.int x5), some (.int x6), some (.int x7)]) (st' := [.ref x0, .int 7, .ref q12, .int x7]) (fun _ => rfl) ?_
      obtain ⟨v14, hv14, h⟩ := obind h
      refine pE_gfI rfl rfl hv14 ?_
      refine pE_jump 3 (pc' := 72) (ls' := [some (.ref x0), none, none, some (.long x3), none, some (.int x5), some (.int x6), some (.int x7)]) (st' := [.int ((7 * v14) + x6), .ref q12, .int x7]) (fun _ => rfl) ?_
      obtain ⟨v15, hv15, h⟩ := obind h
      refine pE_aI rfl rfl hv15 ?_
      refine pE_br (v15 ≤ x7) rfl rfl (fun c23 => ?_) (fun c23 => ?_)
      · rw [if_pos c23] at h
        refine pE_weak [some (.ref x0), none, none, some (.long x3), none, some (.int x5), some (.int x6), none] ⟨rfl, ⟨rfl, ⟨rfl, ⟨rfl, trivial⟩⟩⟩⟩ ?_
        exact f_M_feeds_112 sp d N rec18 x0 x3 x5 x6 S hrec18 _ h
      · rw [if_neg c23] at h
        refine pE_jump 2 (pc' := 78) (ls' := [some (.ref x0), none, none, some (.long x3), none, some (.int x5), some (.int x6), some (.int x7)]) (st' := [.ref x0, .long x3]) (fun _ => rfl) ?_
        obtain ⟨oq16, hq16, h⟩ := obind h
        cases oq16 with
        | none => cases h
        | some q16 =>
          try dsimp only at h
          refine pE_gfS rfl rfl hq16 ?_
          refine pE_jump 3 (pc' := 86) (ls' := [some (.ref x0), none, none, some (.long x3), none, some (.int x5), some (.int x6), some (.int x7)]) (st' := [.int x7, .int x6, .ref x0, .ref q16, .long x3]) (fun _ => rfl) ?_
          obtain ⟨⟨v20, S19⟩, hv20, h⟩ := obind h
          try dsimp only at h
          refine pE_iv (Bs := [.int x6, .int x7]) (st := [.ref q16, .long x3]) 1 rfl (Or.inl ⟨rfl, rfl⟩) rfl rfl (Nat.le_of_ble_eq_true rfl) (Nat.le_of_ble_eq_true rfl) (g_M_nearNode hv20) (f_M_nearNode sp (d + 2) N S x0 x6 x7 _ hv20) ?_
          obtain ⟨v21, hv21, h⟩ := obind h
          refine pE_aI rfl rfl hv21 ?_
          refine pE_br (v21 = 0) rfl rfl (fun c22 => ?_) (fun c22 => ?_)
          · rw [if_pos c22] at h
            refine pE_jump 1 (pc' := 101) (ls' := [some (.ref x0), none, none, some (.long x3), none, some (.int x5), some (.int x6), some (.int x7)]) (st' := [.long 0, .long x3]) (fun _ => rfl) ?_
            refine pE_weak [some (.ref x0), none, none, none, none, some (.int x5), some (.int x6), some (.int x7)] ⟨rfl, ⟨rfl, ⟨rfl, ⟨rfl, trivial⟩⟩⟩⟩ ?_
            exact f_M_feeds_101 sp d N rec18 rec56 x0 x5 x6 x7 0 x3 S19 hrec18 hrec56 _ h
          · rw [if_neg c22] at h
            refine pE_jump 4 (pc' := 101) (ls' := [some (.ref x0), none, none, some (.long x3), none, some (.int x5), some (.int x6), some (.int x7)]) (st' := [.long (1 <<< (Int32.toInt64 x5 &&& 63)), .long x3]) (fun _ => rfl) ?_
            refine pE_weak [some (.ref x0), none, none, none, none, some (.int x5), some (.int x6), some (.int x7)] ⟨rfl, ⟨rfl, ⟨rfl, ⟨rfl, trivial⟩⟩⟩⟩ ?_
            exact f_M_feeds_101 sp d N rec18 rec56 x0 x5 x6 x7 (1 <<< (Int32.toInt64 x5 &&& 63)) x3 S19 hrec18 hrec56 _ h
def B_M_feeds_18 (N : Nat)  (rec18 : Int64 → Int32 → Int32 → pm_S → Option (Int64 × pm_S)) (x0 : Nat) (x3 : Int64) (x5 : Int32) (x6 : Int32) (S : pm_S) : Option (Int64 × pm_S) :=
    (oR S x0 11 7).bind fun oq4 => match oq4 with
    | none => none
    | some q4 =>
    (oI S x0 11 29).bind fun v6 =>
    (aI [0, 6] S q4 v6).bind fun v7 =>
    if v7 ≤ x6 then
    F_M_feeds_118 N x3 S
    else
    ((oR S x0 11 8).bind fun oq8 => match oq8 with
    | none => none
    | some q8 =>
    (oI S x0 11 29).bind fun v10 =>
    (aI [0, 6] S q8 ((7 * v10) + x6)).bind fun v11 =>
    if v11 = 0 then
    F_M_feeds_56 N rec18 x0 x6 N x3 x5 0 S
    else
    F_M_feeds_112 N rec18 x0 x3 x5 x6 S)
def F_M_feeds_18 (N : Nat)  (x0 : Nat) : Nat → Int64 → Int32 → Int32 → pm_S → Option (Int64 × pm_S)
  | 0 => fun _ _ _ _ => none
  | n + 1 => fun x3 x5 x6 S => B_M_feeds_18 N  (F_M_feeds_18 N  x0 n) x0 x3 x5 x6 S
set_option maxHeartbeats 4000000 in
set_option maxRecDepth 20000 in
theorem f_M_feeds_18 (sp : pm_I → List Value → pm_S → pm_O → Prop) (d N : Nat)  (x0 : Nat)  : ∀ (n : Nat) (x3 : Int64) (x5 : Int32) (x6 : Int32) (S : pm_S) (r : (Int64 × pm_S)), F_M_feeds_18 N  x0 n x3 x5 x6 S = some r → pmE pG (pm_rel pG sp (d + 4)) mi_M_feeds 18 [some (.ref x0), none, none, some (.long x3), none, some (.int x5), some (.int x6), none] [] S (some (.long r.1), r.2) := by
  intro n
  induction n with
  | zero =>
    intro x3 x5 x6 S r h
    cases h
  | succ n ih =>
    intro x3 x5 x6 S r h
    replace h : B_M_feeds_18 N  (F_M_feeds_18 N  x0 n) x0 x3 x5 x6 S = some r := h
    have hrec18 := ih
    generalize F_M_feeds_18 N  x0 n = rec18 at h hrec18
    unfold B_M_feeds_18 at h
    refine pE_jump 2 (pc' := 21) (ls' := [some (.ref x0), none, none, some (.long x3), none, some (.int x5), some (.int x6), none]) (st' := [.ref x0, .int x6]) (fun _ => rfl) ?_
    obtain ⟨oq4, hq4, h⟩ := obind h
    cases oq4 with
    | none => cases h
    | some q4 =>
      try dsimp only at h
      refine pE_gfS rfl rfl hq4 ?_
      refine pE_jump 1 (pc' := 25) (ls' := [some (.ref x0), none, none, some (.long x3), none, some (.int x5), some (.int x6), none]) (st' := [.ref x0, .ref q4, .int x6]) (fun _ => rfl) ?_
      obtain ⟨v6, hv6, h⟩ := obind h
      refine pE_gfI rfl rfl hv6 ?_
      obtain ⟨v7, hv7, h⟩ := obind h
      refine pE_aI rfl rfl hv7 ?_
      refine pE_br (v7 ≤ x6) rfl rfl (fun c25 => ?_) (fun c25 => ?_)
      · rw [if_pos c25] at h
        refine pE_weak [none, none, none, some (.long x3), none, none, none, none] ⟨rfl, trivial⟩ ?_
        exact f_M_feeds_118 sp d N x3 S _ h
      · rw [if_neg c25] at h
        refine pE_jump 1 (pc' := 33) (ls' := [some (.ref x0), none, none, some (.long x3), none, some (.int x5), some (.int x6), none]) (st' := [.ref x0]) (fun _ => rfl) ?_
        obtain ⟨oq8, hq8, h⟩ := obind h
        cases oq8 with
        | none => cases h
        | some q8 =>
          try dsimp only at h
          refine pE_gfS rfl rfl hq8 ?_
          refine pE_jump 2 (pc' := 39) (ls' := [some (.ref x0), none, none, some (.long x3), none, some (.int x5), some (.int x6), none]) (st' := [.ref x0, .int 7, .ref q8]) (fun _ => rfl) ?_
          obtain ⟨v10, hv10, h⟩ := obind h
          refine pE_gfI rfl rfl hv10 ?_
          refine pE_jump 3 (pc' := 46) (ls' := [some (.ref x0), none, none, some (.long x3), none, some (.int x5), some (.int x6), none]) (st' := [.int ((7 * v10) + x6), .ref q8]) (fun _ => rfl) ?_
          obtain ⟨v11, hv11, h⟩ := obind h
          refine pE_aI rfl rfl hv11 ?_
          refine pE_br (v11 = 0) rfl rfl (fun c24 => ?_) (fun c24 => ?_)
          · rw [if_pos c24] at h
            refine pE_jump 2 (pc' := 56) (ls' := [some (.ref x0), none, none, some (.long x3), none, some (.int x5), some (.int x6), some (.int 0)]) (st' := []) (fun _ => rfl) ?_
            exact f_M_feeds_56 sp d N rec18 x0 x6 hrec18 N x3 x5 0 S _ h
          · rw [if_neg c24] at h
            refine pE_jump 1 (pc' := 112) (ls' := [some (.ref x0), none, none, some (.long x3), none, some (.int x5), some (.int x6), none]) (st' := []) (fun _ => rfl) ?_
            exact f_M_feeds_112 sp d N rec18 x0 x3 x5 x6 S hrec18 _ h
def F_M_feeds (N : Nat) (S : pm_S) (a : Nat) (p0 : Int32) (p1 : Int32) : Option (Int64 × pm_S) :=
    if rcv S a 11 = true then
    ((F_M_farNode N S a p0 p1).bind fun (v2, S1) =>
    (F_M_sound N S1 a v2).bind fun S3 =>
    F_M_feeds_18 N a N 0 0 0 S3)
    else none
theorem g_M_feeds {N : Nat} {S : pm_S} {a : Nat} {p0 : Int32} {p1 : Int32} {r : (Int64 × pm_S)} (h : F_M_feeds N S a p0 p1 = some r) : rcv S a 11 = true := by
  unfold F_M_feeds at h
  by_cases c : rcv S a 11 = true
  · exact c
  · rw [if_neg c] at h; cases h
set_option maxHeartbeats 4000000 in
set_option maxRecDepth 20000 in
theorem f_M_feeds (sp : pm_I → List Value → pm_S → pm_O → Prop) (d N : Nat) (S : pm_S) (a : Nat) (p0 : Int32) (p1 : Int32) (r : (Int64 × pm_S)) (h : F_M_feeds N S a p0 p1 = some r) : pm_rel pG sp (d + 5) mi_M_feeds [.ref a, .int p0, .int p1] S (some (.long r.1), r.2) := by
  have hg := g_M_feeds h
  unfold F_M_feeds at h
  rw [if_pos hg] at h
  refine pE_rel (d := d + 4) ?_
  show pmE pG _ mi_M_feeds 0 [some (.ref a), some (.int p0), some (.int p1), none, none, none, none, none] [] S _
  refine pE_jump 4 (pc' := 4) (ls' := [some (.ref a), some (.int p0), some (.int p1), none, none, none, none, none]) (st' := [.int p1, .int p0, .ref a, .ref a]) (fun _ => rfl) ?_
  obtain ⟨⟨v2, S1⟩, hv2, h⟩ := obind h
  try dsimp only at h
  refine pE_iv (Bs := [.int p0, .int p1]) (st := [.ref a]) 1 rfl (Or.inl ⟨rfl, rfl⟩) rfl rfl (Nat.le_of_ble_eq_true rfl) (Nat.le_of_ble_eq_true rfl) (g_M_farNode hv2) (f_M_farNode sp (d + 1) N S a p0 p1 _ hv2) ?_
  obtain ⟨S3, hS3, h⟩ := obind h
  refine pE_iv (Bs := [.int v2]) (st := []) 1 rfl (Or.inl ⟨rfl, rfl⟩) rfl rfl (Nat.le_of_ble_eq_true rfl) (Nat.le_of_ble_eq_true rfl) (g_M_sound hS3) (f_M_sound sp d N S1 a v2 _ hS3) ?_
  refine pE_jump 6 (pc' := 18) (ls' := [some (.ref a), some (.int p0), some (.int p1), some (.long 0), none, some (.int 0), some (.int 0), none]) (st' := []) (fun _ => rfl) ?_
  refine pE_weak [some (.ref a), none, none, some (.long 0), none, some (.int 0), some (.int 0), none] ⟨rfl, ⟨rfl, ⟨rfl, ⟨rfl, trivial⟩⟩⟩⟩ ?_
  exact f_M_feeds_18 sp d N a N 0 0 0 S3 _ h
