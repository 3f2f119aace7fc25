def F_Wires_nearer_15 (N : Nat)  (t0 : Int32) (S : pm_S) : Option (Int32 × pm_S) :=
    some (t0, S)
set_option maxHeartbeats 4000000 in
set_option maxRecDepth 20000 in
theorem f_Wires_nearer_15 (sp : pm_I → List Value → pm_S → pm_O → Prop) (d N : Nat)  (t0 : Int32) (S : pm_S)  (r : (Int32 × pm_S)) (h : F_Wires_nearer_15 N  t0 S = some r) : pmE pG (pm_rel pG sp (d + 0)) mi_Wires_nearer 15 [none, none] [.int t0] S (some (.int r.1), r.2) := by
  unfold F_Wires_nearer_15 at h
  cases h
  exact pE_ret rfl rfl rfl
def F_Wires_nearer_10 (N : Nat)  (x1 : Int32) (S : pm_S) : Option (Int32 × pm_S) :=
    F_Wires_nearer_15 N x1 S
set_option maxHeartbeats 4000000 in
set_option maxRecDepth 20000 in
theorem f_Wires_nearer_10 (sp : pm_I → List Value → pm_S → pm_O → Prop) (d N : Nat)  (x1 : Int32) (S : pm_S)  (r : (Int32 × pm_S)) (h : F_Wires_nearer_10 N  x1 S = some r) : pmE pG (pm_rel pG sp (d + 0)) mi_Wires_nearer 10 [none, some (.int x1)] [] S (some (.int r.1), r.2) := by
  unfold F_Wires_nearer_10 at h
  refine pE_jump 2 (pc' := 15) (ls' := [none, some (.int x1)]) (st' := [.int x1]) (fun _ => rfl) ?_
  refine pE_weak [none, none] trivial ?_
  exact f_Wires_nearer_15 sp d N x1 S _ h
def F_Wires_nearer (N : Nat) (S : pm_S) (p0 : Int32) (p1 : Int32) : Option (Int32 × pm_S) :=
    if p0 = (-1) then
    F_Wires_nearer_10 N p1 S
    else
    (if p0 ≤ p1 then
    F_Wires_nearer_15 N p0 S
    else
    F_Wires_nearer_10 N p1 S)
set_option maxHeartbeats 4000000 in
set_option maxRecDepth 20000 in
theorem f_Wires_nearer (sp : pm_I → List Value → pm_S → pm_O → Prop) (d N : Nat) (S : pm_S) (p0 : Int32) (p1 : Int32) (r : (Int32 × pm_S)) (h : F_Wires_nearer N S p0 p1 = some r) : pm_rel pG sp (d + 1) mi_Wires_nearer [.int p0, .int p1] S (some (.int r.1), r.2) := by
  unfold F_Wires_nearer at h
  refine pE_rel (d := d + 0) ?_
  show pmE pG _ mi_Wires_nearer 0 [some (.int p0), some (.int p1)] [] S _
  refine pE_jump 2 (pc' := 2) (ls' := [some (.int p0), some (.int p1)]) (st' := [.int (-1), .int p0]) (fun _ => rfl) ?_
  refine pE_br (p0 = (-1)) rfl rfl (fun c2 => ?_) (fun c2 => ?_)
  · rw [if_pos c2] at h
    refine pE_weak [none, some (.int p1)] ⟨rfl, trivial⟩ ?_
    exact f_Wires_nearer_10 sp d N p1 S _ h
  · rw [if_neg c2] at h
    refine pE_jump 2 (pc' := 7) (ls' := [some (.int p0), some (.int p1)]) (st' := [.int p0, .int p1]) (fun _ => rfl) ?_
    refine pE_br (p0 ≤ p1) rfl rfl (fun c1 => ?_) (fun c1 => ?_)
    · rw [if_pos c1] at h
      refine pE_jump 1 (pc' := 15) (ls' := [some (.int p0), some (.int p1)]) (st' := [.int p0]) (fun _ => rfl) ?_
      refine pE_weak [none, none] trivial ?_
      exact f_Wires_nearer_15 sp d N p0 S _ h
    · rw [if_neg c1] at h
      refine pE_weak [none, some (.int p1)] ⟨rfl, trivial⟩ ?_
      exact f_Wires_nearer_10 sp d N p1 S _ h
def F_Wires_toFirstTouch_78 (N : Nat)  (x4 : Int32) (S : pm_S) : Option (Int32 × pm_S) :=
    some (x4, S)
set_option maxHeartbeats 4000000 in
set_option maxRecDepth 20000 in
theorem f_Wires_toFirstTouch_78 (sp : pm_I → List Value → pm_S → pm_O → Prop) (d N : Nat)  (x4 : Int32) (S : pm_S)  (r : (Int32 × pm_S)) (h : F_Wires_toFirstTouch_78 N  x4 S = some r) : pmE pG (pm_rel pG sp (d + 1)) mi_Wires_toFirstTouch 78 [none, none, none, none, some (.int x4), none, none] [] S (some (.int r.1), r.2) := by
  unfold F_Wires_toFirstTouch_78 at h
  refine pE_jump 1 (pc' := 80) (ls' := [none, none, none, none, some (.int x4), none, none]) (st' := [.int x4]) (fun _ => rfl) ?_
  cases h
  exact pE_ret rfl rfl rfl
def F_Wires_toFirstTouch_72 (N : Nat) (rec6 : Int32 → Int32 → pm_S → Option (Int32 × pm_S)) (x0 : Nat) (x1 : Int32) (x2 : Int32) (x3 : Int32) (x4 : Int32) (x5 : Int32) (S : pm_S) : Option (Int32 × pm_S) :=
    rec6 x4 (x5 + 1) S
set_option maxHeartbeats 4000000 in
set_option maxRecDepth 20000 in
theorem f_Wires_toFirstTouch_72 (sp : pm_I → List Value → pm_S → pm_O → Prop) (d N : Nat) (rec6 : Int32 → Int32 → pm_S → Option (Int32 × pm_S)) (x0 : Nat) (x1 : Int32) (x2 : Int32) (x3 : Int32) (x4 : Int32) (x5 : Int32) (S : pm_S) (hrec6 : ∀ (y1 : Int32) (y2 : Int32) (U : pm_S) (r : (Int32 × pm_S)), rec6 y1 y2 U = some r → pmE pG (pm_rel pG sp (d + 1)) mi_Wires_toFirstTouch 6 [some (.ref x0), some (.int x1), some (.int x2), some (.int x3), some (.int y1), some (.int y2), none] [] U (some (.int r.1), r.2)) (r : (Int32 × pm_S)) (h : F_Wires_toFirstTouch_72 N rec6 x0 x1 x2 x3 x4 x5 S = some r) : pmE pG (pm_rel pG sp (d + 1)) mi_Wires_toFirstTouch 72 [some (.ref x0), some (.int x1), some (.int x2), some (.int x3), some (.int x4), some (.int x5), none] [] S (some (.int r.1), r.2) := by
  unfold F_Wires_toFirstTouch_72 at h
  refine pE_jump 2 (pc' := 6) (ls' := [some (.ref x0), some (.int x1), some (.int x2), some (.int x3), some (.int x4), some (.int (x5 + 1)), none]) (st' := []) (fun _ => rfl) ?_
  exact hrec6 x4 (x5 + 1) S _ h
def F_Wires_toFirstTouch_67 (N : Nat) (rec6 : Int32 → Int32 → pm_S → Option (Int32 × pm_S)) (x0 : Nat) (x1 : Int32) (x2 : Int32) (x3 : Int32) (x5 : Int32) (t0 : Int32) (t1 : Int32) (S : pm_S) : Option (Int32 × pm_S) :=
    (F_Wires_nearer N S t1 t0).bind fun (v9, S8) =>
    F_Wires_toFirstTouch_72 N rec6 x0 x1 x2 x3 v9 x5 S8
set_option maxHeartbeats 4000000 in
set_option maxRecDepth 20000 in
theorem f_Wires_toFirstTouch_67 (sp : pm_I → List Value → pm_S → pm_O → Prop) (d N : Nat) (rec6 : Int32 → Int32 → pm_S → Option (Int32 × pm_S)) (x0 : Nat) (x1 : Int32) (x2 : Int32) (x3 : Int32) (x5 : Int32) (t0 : Int32) (t1 : Int32) (S : pm_S) (hrec6 : ∀ (y1 : Int32) (y2 : Int32) (U : pm_S) (r : (Int32 × pm_S)), rec6 y1 y2 U = some r → pmE pG (pm_rel pG sp (d + 1)) mi_Wires_toFirstTouch 6 [some (.ref x0), some (.int x1), some (.int x2), some (.int x3), some (.int y1), some (.int y2), none] [] U (some (.int r.1), r.2)) (r : (Int32 × pm_S)) (h : F_Wires_toFirstTouch_67 N rec6 x0 x1 x2 x3 x5 t0 t1 S = some r) : pmE pG (pm_rel pG sp (d + 1)) mi_Wires_toFirstTouch 67 [some (.ref x0), some (.int x1), some (.int x2), some (.int x3), none, some (.int x5), none] [.int t0, .int t1] S (some (.int r.1), r.2) := by
  unfold F_Wires_toFirstTouch_67 at h
  obtain ⟨⟨v9, S8⟩, hv9, h⟩ := obind h
  try dsimp only at h
  refine pE_is (Bs := [.int t1, .int t0]) (st := []) rfl rfl rfl (Nat.le_of_ble_eq_true rfl) (Nat.le_of_ble_eq_true rfl) (f_Wires_nearer sp d N S t1 t0 _ hv9) ?_
  refine pE_jump 1 (pc' := 72) (ls' := [some (.ref x0), some (.int x1), some (.int x2), some (.int x3), some (.int v9), some (.int x5), none]) (st' := []) (fun _ => rfl) ?_
  exact f_Wires_toFirstTouch_72 sp d N rec6 x0 x1 x2 x3 v9 x5 S8 hrec6 _ h
def F_Wires_toFirstTouch_41 (N : Nat) (rec6 : Int32 → Int32 → pm_S → Option (Int32 × pm_S)) (x0 : Nat) (x1 : Int32) (x2 : Int32) (x3 : Int32) (x4 : Int32) (x5 : Int32) (S : pm_S) : Option (Int32 × pm_S) :=
    (oR S x0 9 8).bind fun oq5 => match oq5 with
    | none => none
    | some q5 =>
    (F_BP_valueAt N S q5 x5).bind fun (v7, S6) =>
    if x2 = 0 then
    F_Wires_toFirstTouch_67 N rec6 x0 x1 x2 x3 x5 v7 x4 S6
    else
    F_Wires_toFirstTouch_67 N rec6 x0 x1 x2 x3 x5 (x3 - v7) x4 S6
set_option maxHeartbeats 4000000 in
set_option maxRecDepth 20000 in
theorem f_Wires_toFirstTouch_41 (sp : pm_I → List Value → pm_S → pm_O → Prop) (d N : Nat) (rec6 : Int32 → Int32 → pm_S → Option (Int32 × pm_S)) (x0 : Nat) (x1 : Int32) (x2 : Int32) (x3 : Int32) (x4 : Int32) (x5 : Int32) (S : pm_S) (hrec6 : ∀ (y1 : Int32) (y2 : Int32) (U : pm_S) (r : (Int32 × pm_S)), rec6 y1 y2 U = some r → pmE pG (pm_rel pG sp (d + 1)) mi_Wires_toFirstTouch 6 [some (.ref x0), some (.int x1), some (.int x2), some (.int x3), some (.int y1), some (.int y2), none] [] U (some (.int r.1), r.2)) (r : (Int32 × pm_S)) (h : F_Wires_toFirstTouch_41 N rec6 x0 x1 x2 x3 x4 x5 S = some r) : pmE pG (pm_rel pG sp (d + 1)) mi_Wires_toFirstTouch 41 [some (.ref x0), some (.int x1), some (.int x2), some (.int x3), some (.int x4), some (.int x5), none] [] S (some (.int r.1), r.2) := by
  unfold F_Wires_toFirstTouch_41 at h
  refine pE_jump 1 (pc' := 42) (ls' := [some (.ref x0), some (.int x1), some (.int x2), some (.int x3), some (.int x4), some (.int x5), none]) (st' := [.ref x0]) (fun _ => rfl) ?_
  obtain ⟨oq5, hq5, h⟩ := obind h
  cases oq5 with
  | none => cases h
  | some q5 =>
    try dsimp only at h
    refine pE_gfS rfl rfl hq5 ?_
    refine pE_jump 1 (pc' := 47) (ls' := [some (.ref x0), some (.int x1), some (.int x2), some (.int x3), some (.int x4), some (.int x5), none]) (st' := [.int x5, .ref q5]) (fun _ => rfl) ?_
    obtain ⟨⟨v7, S6⟩, hv7, h⟩ := obind h
    try dsimp only at h
    refine pE_is (Bs := [.ref q5, .int x5]) (st := []) rfl rfl rfl (Nat.le_of_ble_eq_true rfl) (Nat.le_of_ble_eq_true rfl) (f_BP_valueAt sp d N S q5 x5 _ hv7) ?_
    refine pE_jump 3 (pc' := 55) (ls' := [some (.ref x0), some (.int x1), some (.int x2), some (.int x3), some (.int x4), some (.int x5), some (.int v7)]) (st' := [.int x2, .int x4]) (fun _ => rfl) ?_
    refine pE_br (¬ x2 = 0) rfl rfl (fun c10 => ?_) (fun c10 => ?_)
    · rw [if_neg c10] at h
      refine pE_jump 3 (pc' := 67) (ls' := [some (.ref x0), some (.int x1), some (.int x2), some (.int x3), some (.int x4), some (.int x5), some (.int v7)]) (st' := [.int (x3 - v7), .int x4]) (fun _ => rfl) ?_
      refine pE_weak [some (.ref x0), some (.int x1), some (.int x2), some (.int x3), none, some (.int x5), none] ⟨rfl, ⟨rfl, ⟨rfl, ⟨rfl, ⟨rfl, trivial⟩⟩⟩⟩⟩ ?_
      exact f_Wires_toFirstTouch_67 sp d N rec6 x0 x1 x2 x3 x5 (x3 - v7) x4 S6 hrec6 _ h
    · have c10 := Decidable.not_not.mp c10
      rw [if_pos c10] at h
      refine pE_jump 2 (pc' := 67) (ls' := [some (.ref x0), some (.int x1), some (.int x2), some (.int x3), some (.int x4), some (.int x5), some (.int v7)]) (st' := [.int v7, .int x4]) (fun _ => rfl) ?_
      refine pE_weak [some (.ref x0), some (.int x1), some (.int x2), some (.int x3), none, some (.int x5), none] ⟨rfl, ⟨rfl, ⟨rfl, ⟨rfl, ⟨rfl, trivial⟩⟩⟩⟩⟩ ?_
      exact f_Wires_toFirstTouch_67 sp d N rec6 x0 x1 x2 x3 x5 v7 x4 S6 hrec6 _ h
def B_Wires_toFirstTouch_6 (N : Nat)  (rec6 : Int32 → Int32 → pm_S → Option (Int32 × pm_S)) (x0 : Nat) (x1 : Int32) (x2 : Int32) (x3 : Int32) (x4 : Int32) (x5 : Int32) (S : pm_S) : Option (Int32 × pm_S) :=
    (oI S x0 9 12).bind fun v1 =>
    if v1 ≤ x5 then
    F_Wires_toFirstTouch_78 N x4 S
    else
    ((oR S x0 9 6).bind fun oq2 => match oq2 with
    | none => none
    | some q2 =>
    (F_BP_valueAt N S q2 x5).bind fun (v4, S3) =>
    if v4 = x1 then
    F_Wires_toFirstTouch_41 N rec6 x0 x1 x2 x3 x4 x5 S3
    else
    ((oR S3 x0 9 7).bind fun oq11 => match oq11 with
    | none => none
    | some q11 =>
    (F_BP_valueAt N S3 q11 x5).bind fun (v13, S12) =>
    if v13 = x1 then
    F_Wires_toFirstTouch_41 N rec6 x0 x1 x2 x3 x4 x5 S12
    else
    F_Wires_toFirstTouch_72 N rec6 x0 x1 x2 x3 x4 x5 S12))
def F_Wires_toFirstTouch_6 (N : Nat)  (x0 : Nat) (x1 : Int32) (x2 : Int32) (x3 : Int32) : Nat → Int32 → Int32 → pm_S → Option (Int32 × pm_S)
  | 0 => fun _ _ _ => none
  | n + 1 => fun x4 x5 S => B_Wires_toFirstTouch_6 N  (F_Wires_toFirstTouch_6 N  x0 x1 x2 x3 n) x0 x1 x2 x3 x4 x5 S
set_option maxHeartbeats 4000000 in
set_option maxRecDepth 20000 in
theorem f_Wires_toFirstTouch_6 (sp : pm_I → List Value → pm_S → pm_O → Prop) (d N : Nat)  (x0 : Nat) (x1 : Int32) (x2 : Int32) (x3 : Int32)  : ∀ (n : Nat) (x4 : Int32) (x5 : Int32) (S : pm_S) (r : (Int32 × pm_S)), F_Wires_toFirstTouch_6 N  x0 x1 x2 x3 n x4 x5 S = some r → pmE pG (pm_rel pG sp (d + 1)) mi_Wires_toFirstTouch 6 [some (.ref x0), some (.int x1), some (.int x2), some (.int x3), some (.int x4), some (.int x5), none] [] S (some (.int r.1), r.2) := by
  intro n
  induction n with
  | zero =>
    intro x4 x5 S r h
    cases h
  | succ n ih =>
    intro x4 x5 S r h
    replace h : B_Wires_toFirstTouch_6 N  (F_Wires_toFirstTouch_6 N  x0 x1 x2 x3 n) x0 x1 x2 x3 x4 x5 S = some r := h
    have hrec6 := ih
    generalize F_Wires_toFirstTouch_6 N  x0 x1 x2 x3 n = rec6 at h hrec6
    unfold B_Wires_toFirstTouch_6 at h
    refine pE_jump 2 (pc' := 9) (ls' := [some (.ref x0), some (.int x1), some (.int x2), some (.int x3), some (.int x4), some (.int x5), none]) (st' := [.ref x0, .int x5]) (fun _ => rfl) ?_
    obtain ⟨v1, hv1, h⟩ := obind h
    refine pE_gfI rfl rfl hv1 ?_
    refine pE_br (v1 ≤ x5) rfl rfl (fun c16 => ?_) (fun c16 => ?_)
    · rw [if_pos c16] at h
      refine pE_weak [none, none, none, none, some (.int x4), none, none] ⟨rfl, trivial⟩ ?_
      exact f_Wires_toFirstTouch_78 sp d N x4 S _ h
    · rw [if_neg c16] at h
      refine pE_jump 1 (pc' := 16) (ls' := [some (.ref x0), some (.int x1), some (.int x2), some (.int x3), some (.int x4), some (.int x5), none]) (st' := [.ref x0]) (fun _ => rfl) ?_
      obtain ⟨oq2, hq2, h⟩ := obind h
      cases oq2 with
      | none => cases h
      | some q2 =>
        try dsimp only at h
        refine pE_gfS rfl rfl hq2 ?_
        refine pE_jump 1 (pc' := 21) (ls' := [some (.ref x0), some (.int x1), some (.int x2), some (.int x3), some (.int x4), some (.int x5), none]) (st' := [.int x5, .ref q2]) (fun _ => rfl) ?_
        obtain ⟨⟨v4, S3⟩, hv4, h⟩ := obind h
        try dsimp only at h
        refine pE_is (Bs := [.ref q2, .int x5]) (st := []) rfl rfl rfl (Nat.le_of_ble_eq_true rfl) (Nat.le_of_ble_eq_true rfl) (f_BP_valueAt sp d N S q2 x5 _ hv4) ?_
        refine pE_jump 1 (pc' := 25) (ls' := [some (.ref x0), some (.int x1), some (.int x2), some (.int x3), some (.int x4), some (.int x5), none]) (st' := [.int x1, .int v4]) (fun _ => rfl) ?_
        refine pE_br (v4 = x1) rfl rfl (fun c15 => ?_) (fun c15 => ?_)
        · rw [if_pos c15] at h
          exact f_Wires_toFirstTouch_41 sp d N rec6 x0 x1 x2 x3 x4 x5 S3 hrec6 _ h
        · rw [if_neg c15] at h
          refine pE_jump 1 (pc' := 29) (ls' := [some (.ref x0), some (.int x1), some (.int x2), some (.int x3), some (.int x4), some (.int x5), none]) (st' := [.ref x0]) (fun _ => rfl) ?_
          obtain ⟨oq11, hq11, h⟩ := obind h
          cases oq11 with
          | none => cases h
          | some q11 =>
            try dsimp only at h
            refine pE_gfS rfl rfl hq11 ?_
            refine pE_jump 1 (pc' := 34) (ls' := [some (.ref x0), some (.int x1), some (.int x2), some (.int x3), some (.int x4), some (.int x5), none]) (st' := [.int x5, .ref q11]) (fun _ => rfl) ?_
            obtain ⟨⟨v13, S12⟩, hv13, h⟩ := obind h
            try dsimp only at h
            refine pE_is (Bs := [.ref q11, .int x5]) (st := []) rfl rfl rfl (Nat.le_of_ble_eq_true rfl) (Nat.le_of_ble_eq_true rfl) (f_BP_valueAt sp d N S3 q11 x5 _ hv13) ?_
            refine pE_jump 1 (pc' := 38) (ls' := [some (.ref x0), some (.int x1), some (.int x2), some (.int x3), some (.int x4), some (.int x5), none]) (st' := [.int x1, .int v13]) (fun _ => rfl) ?_
            refine pE_br (¬ v13 = x1) rfl rfl (fun c14 => ?_) (fun c14 => ?_)
            · rw [if_neg c14] at h
              exact f_Wires_toFirstTouch_72 sp d N rec6 x0 x1 x2 x3 x4 x5 S12 hrec6 _ h
            · have c14 := Decidable.not_not.mp c14
              rw [if_pos c14] at h
              exact f_Wires_toFirstTouch_41 sp d N rec6 x0 x1 x2 x3 x4 x5 S12 hrec6 _ h
def F_Wires_toFirstTouch (N : Nat) (S : pm_S) (a : Nat) (p0 : Int32) (p1 : Int32) (p2 : Int32) : Option (Int32 × pm_S) :=
    if rcv S a 9 = true then
    (F_Wires_toFirstTouch_6 N a p0 p1 p2 N (-1) 0 S)
    else none
theorem g_Wires_toFirstTouch {N : Nat} {S : pm_S} {a : Nat} {p0 : Int32} {p1 : Int32} {p2 : Int32} {r : (Int32 × pm_S)} (h : F_Wires_toFirstTouch N S a p0 p1 p2 = some r) : rcv S a 9 = true := by
  unfold F_Wires_toFirstTouch at h
  by_cases c : rcv S a 9 = true
  · exact c
  · rw [if_neg c] at h; cases h
set_option maxHeartbeats 4000000 in
set_option maxRecDepth 20000 in
theorem f_Wires_toFirstTouch (sp : pm_I → List Value → pm_S → pm_O → Prop) (d N : Nat) (S : pm_S) (a : Nat) (p0 : Int32) (p1 : Int32) (p2 : Int32) (r : (Int32 × pm_S)) (h : F_Wires_toFirstTouch N S a p0 p1 p2 = some r) : pm_rel pG sp (d + 2) mi_Wires_toFirstTouch [.ref a, .int p0, .int p1, .int p2] S (some (.int r.1), r.2) := by
  have hg := g_Wires_toFirstTouch h
  unfold F_Wires_toFirstTouch at h
  rw [if_pos hg] at h
  refine pE_rel (d := d + 1) ?_
  show pmE pG _ mi_Wires_toFirstTouch 0 [some (.ref a), some (.int p0), some (.int p1), some (.int p2), none, none, none] [] S _
  refine pE_jump 4 (pc' := 6) (ls' := [some (.ref a), some (.int p0), some (.int p1), some (.int p2), some (.int (-1)), some (.int 0), none]) (st' := []) (fun _ => rfl) ?_
  exact f_Wires_toFirstTouch_6 sp d N a p0 p1 p2 N (-1) 0 S _ h
def F_Wires_toFirstBreak_65 (N : Nat)  (x4 : Int32) (S : pm_S) : Option (Int32 × pm_S) :=
    some (x4, S)
set_option maxHeartbeats 4000000 in
set_option maxRecDepth 20000 in
theorem f_Wires_toFirstBreak_65 (sp : pm_I → List Value → pm_S → pm_O → Prop) (d N : Nat)  (x4 : Int32) (S : pm_S)  (r : (Int32 × pm_S)) (h : F_Wires_toFirstBreak_65 N  x4 S = some r) : pmE pG (pm_rel pG sp (d + 1)) mi_Wires_toFirstBreak 65 [none, none, none, none, some (.int x4), none, none] [] S (some (.int r.1), r.2) := by
  unfold F_Wires_toFirstBreak_65 at h
  refine pE_jump 1 (pc' := 67) (ls' := [none, none, none, none, some (.int x4), none, none]) (st' := [.int x4]) (fun _ => rfl) ?_
  cases h
  exact pE_ret rfl rfl rfl
def F_Wires_toFirstBreak_59 (N : Nat) (rec6 : Int32 → Int32 → pm_S → Option (Int32 × pm_S)) (x0 : Nat) (x1 : Int32) (x2 : Int32) (x3 : Int32) (x4 : Int32) (x5 : Int32) (S : pm_S) : Option (Int32 × pm_S) :=
    rec6 x4 (x5 + 1) S
set_option maxHeartbeats 4000000 in
set_option maxRecDepth 20000 in
theorem f_Wires_toFirstBreak_59 (sp : pm_I → List Value → pm_S → pm_O → Prop) (d N : Nat) (rec6 : Int32 → Int32 → pm_S → Option (Int32 × pm_S)) (x0 : Nat) (x1 : Int32) (x2 : Int32) (x3 : Int32) (x4 : Int32) (x5 : Int32) (S : pm_S) (hrec6 : ∀ (y1 : Int32) (y2 : Int32) (U : pm_S) (r : (Int32 × pm_S)), rec6 y1 y2 U = some r → pmE pG (pm_rel pG sp (d + 1)) mi_Wires_toFirstBreak 6 [some (.ref x0), some (.int x1), some (.int x2), some (.int x3), some (.int y1), some (.int y2), none] [] U (some (.int r.1), r.2)) (r : (Int32 × pm_S)) (h : F_Wires_toFirstBreak_59 N rec6 x0 x1 x2 x3 x4 x5 S = some r) : pmE pG (pm_rel pG sp (d + 1)) mi_Wires_toFirstBreak 59 [some (.ref x0), some (.int x1), some (.int x2), some (.int x3), some (.int x4), some (.int x5), none] [] S (some (.int r.1), r.2) := by
  unfold F_Wires_toFirstBreak_59 at h
  refine pE_jump 2 (pc' := 6) (ls' := [some (.ref x0), some (.int x1), some (.int x2), some (.int x3), some (.int x4), some (.int (x5 + 1)), none]) (st' := []) (fun _ => rfl) ?_
  exact hrec6 x4 (x5 + 1) S _ h
def F_Wires_toFirstBreak_54 (N : Nat) (rec6 : Int32 → Int32 → pm_S → Option (Int32 × pm_S)) (x0 : Nat) (x1 : Int32) (x2 : Int32) (x3 : Int32) (x5 : Int32) (t0 : Int32) (t1 : Int32) (S : pm_S) : Option (Int32 × pm_S) :=
    (F_Wires_nearer N S t1 t0).bind fun (v9, S8) =>
    F_Wires_toFirstBreak_59 N rec6 x0 x1 x2 x3 v9 x5 S8
set_option maxHeartbeats 4000000 in
set_option maxRecDepth 20000 in
theorem f_Wires_toFirstBreak_54 (sp : pm_I → List Value → pm_S → pm_O → Prop) (d N : Nat) (rec6 : Int32 → Int32 → pm_S → Option (Int32 × pm_S)) (x0 : Nat) (x1 : Int32) (x2 : Int32) (x3 : Int32) (x5 : Int32) (t0 : Int32) (t1 : Int32) (S : pm_S) (hrec6 : ∀ (y1 : Int32) (y2 : Int32) (U : pm_S) (r : (Int32 × pm_S)), rec6 y1 y2 U = some r → pmE pG (pm_rel pG sp (d + 1)) mi_Wires_toFirstBreak 6 [some (.ref x0), some (.int x1), some (.int x2), some (.int x3), some (.int y1), some (.int y2), none] [] U (some (.int r.1), r.2)) (r : (Int32 × pm_S)) (h : F_Wires_toFirstBreak_54 N rec6 x0 x1 x2 x3 x5 t0 t1 S = some r) : pmE pG (pm_rel pG sp (d + 1)) mi_Wires_toFirstBreak 54 [some (.ref x0), some (.int x1), some (.int x2), some (.int x3), none, some (.int x5), none] [.int t0, .int t1] S (some (.int r.1), r.2) := by
  unfold F_Wires_toFirstBreak_54 at h
  obtain ⟨⟨v9, S8⟩, hv9, h⟩ := obind h
  try dsimp only at h
  refine pE_is (Bs := [.int t1, .int t0]) (st := []) rfl rfl rfl (Nat.le_of_ble_eq_true rfl) (Nat.le_of_ble_eq_true rfl) (f_Wires_nearer sp d N S t1 t0 _ hv9) ?_
  refine pE_jump 1 (pc' := 59) (ls' := [some (.ref x0), some (.int x1), some (.int x2), some (.int x3), some (.int v9), some (.int x5), none]) (st' := []) (fun _ => rfl) ?_
  exact f_Wires_toFirstBreak_59 sp d N rec6 x0 x1 x2 x3 v9 x5 S8 hrec6 _ h
def B_Wires_toFirstBreak_6 (N : Nat)  (rec6 : Int32 → Int32 → pm_S → Option (Int32 × pm_S)) (x0 : Nat) (x1 : Int32) (x2 : Int32) (x3 : Int32) (x4 : Int32) (x5 : Int32) (S : pm_S) : Option (Int32 × pm_S) :=
    (oI S x0 9 11).bind fun v1 =>
    if v1 ≤ x5 then
    F_Wires_toFirstBreak_65 N x4 S
    else
    ((oR S x0 9 4).bind fun oq2 => match oq2 with
    | none => none
    | some q2 =>
    (F_BP_valueAt N S q2 x5).bind fun (v4, S3) =>
    if v4 = x1 then
    ((oR S3 x0 9 5).bind fun oq5 => match oq5 with
    | none => none
    | some q5 =>
    (F_BP_valueAt N S3 q5 x5).bind fun (v7, S6) =>
    if x2 = 0 then
    F_Wires_toFirstBreak_54 N rec6 x0 x1 x2 x3 x5 v7 x4 S6
    else
    F_Wires_toFirstBreak_54 N rec6 x0 x1 x2 x3 x5 (x3 - v7) x4 S6)
    else
    F_Wires_toFirstBreak_59 N rec6 x0 x1 x2 x3 x4 x5 S3)
def F_Wires_toFirstBreak_6 (N : Nat)  (x0 : Nat) (x1 : Int32) (x2 : Int32) (x3 : Int32) : Nat → Int32 → Int32 → pm_S → Option (Int32 × pm_S)
  | 0 => fun _ _ _ => none
  | n + 1 => fun x4 x5 S => B_Wires_toFirstBreak_6 N  (F_Wires_toFirstBreak_6 N  x0 x1 x2 x3 n) x0 x1 x2 x3 x4 x5 S
set_option maxHeartbeats 4000000 in
set_option maxRecDepth 20000 in
theorem f_Wires_toFirstBreak_6 (sp : pm_I → List Value → pm_S → pm_O → Prop) (d N : Nat)  (x0 : Nat) (x1 : Int32) (x2 : Int32) (x3 : Int32)  : ∀ (n : Nat) (x4 : Int32) (x5 : Int32) (S : pm_S) (r : (Int32 × pm_S)), F_Wires_toFirstBreak_6 N  x0 x1 x2 x3 n x4 x5 S = some r → pmE pG (pm_rel pG sp (d + 1)) mi_Wires_toFirstBreak 6 [some (.ref x0), some (.int x1), some (.int x2), some (.int x3), some (.int x4), some (.int x5), none] [] S (some (.int r.1), r.2) := by
  intro n
  induction n with
  | zero =>
    intro x4 x5 S r h
    cases h
  | succ n ih =>
    intro x4 x5 S r h
    replace h : B_Wires_toFirstBreak_6 N  (F_Wires_toFirstBreak_6 N  x0 x1 x2 x3 n) x0 x1 x2 x3 x4 x5 S = some r := h
    have hrec6 := ih
    generalize F_Wires_toFirstBreak_6 N  x0 x1 x2 x3 n = rec6 at h hrec6
    unfold B_Wires_toFirstBreak_6 at h
    refine pE_jump 2 (pc' := 9) (ls' := [some (.ref x0), some (.int x1), some (.int x2), some (.int x3), some (.int x4), some (.int x5), none]) (st' := [.ref x0, .int x5]) (fun _ => rfl) ?_
    obtain ⟨v1, hv1, h⟩ := obind h
    refine pE_gfI rfl rfl hv1 ?_
    refine pE_br (v1 ≤ x5) rfl rfl (fun c12 => ?_) (fun c12 => ?_)
    · rw [if_pos c12] at h
      refine pE_weak [none, none, none, none, some (.int x4), none, none] ⟨rfl, trivial⟩ ?_
      exact f_Wires_toFirstBreak_65 sp d N x4 S _ h
    · rw [if_neg c12] at h
      refine pE_jump 1 (pc' := 16) (ls' := [some (.ref x0), some (.int x1), some (.int x2), some (.int x3), some (.int x4), some (.int x5), none]) (st' := [.ref x0]) (fun _ => rfl) ?_
      obtain ⟨oq2, hq2, h⟩ := obind h
      cases oq2 with
      | none => cases h
      | some q2 =>
        try dsimp only at h
        refine pE_gfS rfl rfl hq2 ?_
        refine pE_jump 1 (pc' := 21) (ls' := [some (.ref x0), some (.int x1), some (.int x2), some (.int x3), some (.int x4), some (.int x5), none]) (st' := [.int x5, .ref q2]) (fun _ => rfl) ?_
        obtain ⟨⟨v4, S3⟩, hv4, h⟩ := obind h
        try dsimp only at h
        refine pE_is (Bs := [.ref q2, .int x5]) (st := []) rfl rfl rfl (Nat.le_of_ble_eq_true rfl) (Nat.le_of_ble_eq_true rfl) (f_BP_valueAt sp d N S q2 x5 _ hv4) ?_
        refine pE_jump 1 (pc' := 25) (ls' := [some (.ref x0), some (.int x1), some (.int x2), some (.int x3), some (.int x4), some (.int x5), none]) (st' := [.int x1, .int v4]) (fun _ => rfl) ?_
        refine pE_br (¬ v4 = x1) rfl rfl (fun c11 => ?_) (fun c11 => ?_)
        · rw [if_neg c11] at h
          exact f_Wires_toFirstBreak_59 sp d N rec6 x0 x1 x2 x3 x4 x5 S3 hrec6 _ h
        · have c11 := Decidable.not_not.mp c11
          rw [if_pos c11] at h
          refine pE_jump 1 (pc' := 29) (ls' := [some (.ref x0), some (.int x1), some (.int x2), some (.int x3), some (.int x4), some (.int x5), none]) (st' := [.ref x0]) (fun _ => rfl) ?_
          obtain ⟨oq5, hq5, h⟩ := obind h
          cases oq5 with
          | none => cases h
          | some q5 =>
            try dsimp only at h
            refine pE_gfS rfl rfl hq5 ?_
            refine pE_jump 1 (pc' := 34) (ls' := [some (.ref x0), some (.int x1), some (.int x2), some (.int x3), some (.int x4), some (.int x5), none]) (st' := [.int x5, .ref q5]) (fun _ => rfl) ?_
            obtain ⟨⟨v7, S6⟩, hv7, h⟩ := obind h
            try dsimp only at h
            refine pE_is (Bs := [.ref q5, .int x5]) (st := []) rfl rfl rfl (Nat.le_of_ble_eq_true rfl) (Nat.le_of_ble_eq_true rfl) (f_BP_valueAt sp d N S3 q5 x5 _ hv7) ?_
            refine pE_jump 3 (pc' := 42) (ls' := [some (.ref x0), some (.int x1), some (.int x2), some (.int x3), some (.int x4), some (.int x5), some (.int v7)]) (st' := [.int x2, .int x4]) (fun _ => rfl) ?_
            refine pE_br (¬ x2 = 0) rfl rfl (fun c10 => ?_) (fun c10 => ?_)
            · rw [if_neg c10] at h
              refine pE_jump 3 (pc' := 54) (ls' := [some (.ref x0), some (.int x1), some (.int x2), some (.int x3), some (.int x4), some (.int x5), some (.int v7)]) (st' := [.int (x3 - v7), .int x4]) (fun _ => rfl) ?_
              refine pE_weak [some (.ref x0), some (.int x1), some (.int x2), some (.int x3), none, some (.int x5), none] ⟨rfl, ⟨rfl, ⟨rfl, ⟨rfl, ⟨rfl, trivial⟩⟩⟩⟩⟩ ?_
              exact f_Wires_toFirstBreak_54 sp d N rec6 x0 x1 x2 x3 x5 (x3 - v7) x4 S6 hrec6 _ h
            · have c10 := Decidable.not_not.mp c10
              rw [if_pos c10] at h
              refine pE_jump 2 (pc' := 54) (ls' := [some (.ref x0), some (.int x1), some (.int x2), some (.int x3), some (.int x4), some (.int x5), some (.int v7)]) (st' := [.int v7, .int x4]) (fun _ => rfl) ?_
              refine pE_weak [some (.ref x0), some (.int x1), some (.int x2), some (.int x3), none, some (.int x5), none] ⟨rfl, ⟨rfl, ⟨rfl, ⟨rfl, ⟨rfl, trivial⟩⟩⟩⟩⟩ ?_
              exact f_Wires_toFirstBreak_54 sp d N rec6 x0 x1 x2 x3 x5 v7 x4 S6 hrec6 _ h
def F_Wires_toFirstBreak (N : Nat) (S : pm_S) (a : Nat) (p0 : Int32) (p1 : Int32) (p2 : Int32) : Option (Int32 × pm_S) :=
    if rcv S a 9 = true then
    (F_Wires_toFirstBreak_6 N a p0 p1 p2 N (-1) 0 S)
    else none
theorem g_Wires_toFirstBreak {N : Nat} {S : pm_S} {a : Nat} {p0 : Int32} {p1 : Int32} {p2 : Int32} {r : (Int32 × pm_S)} (h : F_Wires_toFirstBreak N S a p0 p1 p2 = some r) : rcv S a 9 = true := by
  unfold F_Wires_toFirstBreak at h
  by_cases c : rcv S a 9 = true
  · exact c
  · rw [if_neg c] at h; cases h
set_option maxHeartbeats 4000000 in
set_option maxRecDepth 20000 in
theorem f_Wires_toFirstBreak (sp : pm_I → List Value → pm_S → pm_O → Prop) (d N : Nat) (S : pm_S) (a : Nat) (p0 : Int32) (p1 : Int32) (p2 : Int32) (r : (Int32 × pm_S)) (h : F_Wires_toFirstBreak N S a p0 p1 p2 = some r) : pm_rel pG sp (d + 2) mi_Wires_toFirstBreak [.ref a, .int p0, .int p1, .int p2] S (some (.int r.1), r.2) := by
  have hg := g_Wires_toFirstBreak h
  unfold F_Wires_toFirstBreak at h
  rw [if_pos hg] at h
  refine pE_rel (d := d + 1) ?_
  show pmE pG _ mi_Wires_toFirstBreak 0 [some (.ref a), some (.int p0), some (.int p1), some (.int p2), none, none, none] [] S _
  refine pE_jump 4 (pc' := 6) (ls' := [some (.ref a), some (.int p0), some (.int p1), some (.int p2), some (.int (-1)), some (.int 0), none]) (st' := []) (fun _ => rfl) ?_
  exact f_Wires_toFirstBreak_6 sp d N a p0 p1 p2 N (-1) 0 S _ h
def F_Wires_hangsBehind_27 (N : Nat)  (t0 : Int32) (S : pm_S) : Option (Int32 × pm_S) :=
    if t0 = 0 ∨ t0 = 1 then some (t0, S) else none
set_option maxHeartbeats 4000000 in
set_option maxRecDepth 20000 in
theorem f_Wires_hangsBehind_27 (sp : pm_I → List Value → pm_S → pm_O → Prop) (d N : Nat)  (t0 : Int32) (S : pm_S)  (r : (Int32 × pm_S)) (h : F_Wires_hangsBehind_27 N  t0 S = some r) : pmE pG (pm_rel pG sp (d + 1)) mi_Wires_hangsBehind 27 [none, none] [.int t0] S (some (.int r.1), r.2) := by
  unfold F_Wires_hangsBehind_27 at h
  by_cases c11 : t0 = 0 ∨ t0 = 1
  · rw [if_pos c11] at h
    cases h
    exact pE_ret rfl (if_pos c11) rfl
  · rw [if_neg c11] at h
    cases h
def F_Wires_hangsBehind (N : Nat) (S : pm_S) (a : Nat) (p0 : Int32) : Option (Int32 × pm_S) :=
    if rcv S a 9 = true then
    ((oR S a 9 10).bind fun oq1 => match oq1 with
    | none => none
    | some q1 =>
    (oR S q1 1 2).bind fun oq2 => match oq2 with
    | none => none
    | some q2 =>
    (oR S a 9 1).bind fun oq6 => match oq6 with
    | none => none
    | some q6 =>
    (F_BP_valueAt N S q6 p0).bind fun (v8, S7) =>
    (F_BP_valueAt N S7 q2 v8).bind fun (v10, S9) =>
    if v10 = (-1) then
    F_Wires_hangsBehind_27 N 0 S9
    else
    F_Wires_hangsBehind_27 N 1 S9)
    else none
theorem g_Wires_hangsBehind {N : Nat} {S : pm_S} {a : Nat} {p0 : Int32} {r : (Int32 × pm_S)} (h : F_Wires_hangsBehind N S a p0 = some r) : rcv S a 9 = true := by
  unfold F_Wires_hangsBehind at h
  by_cases c : rcv S a 9 = true
  · exact c
  · rw [if_neg c] at h; cases h
set_option maxHeartbeats 4000000 in
set_option maxRecDepth 20000 in
theorem f_Wires_hangsBehind (sp : pm_I → List Value → pm_S → pm_O → Prop) (d N : Nat) (S : pm_S) (a : Nat) (p0 : Int32) (r : (Int32 × pm_S)) (h : F_Wires_hangsBehind N S a p0 = some r) : pm_rel pG sp (d + 2) mi_Wires_hangsBehind [.ref a, .int p0] S (some (.int r.1), r.2) := by
  have hg := g_Wires_hangsBehind h
  unfold F_Wires_hangsBehind at h
  rw [if_pos hg] at h
  refine pE_rel (d := d + 1) ?_
  show pmE pG _ mi_Wires_hangsBehind 0 [some (.ref a), some (.int p0)] [] S _
  refine pE_jump 1 (pc' := 1) (ls' := [some (.ref a), some (.int p0)]) (st' := [.ref a]) (fun _ => rfl) ?_
  obtain ⟨oq1, hq1, h⟩ := obind h
  cases oq1 with
  | none => cases h
  | some q1 =>
    try dsimp only at h
    refine pE_gfS rfl rfl hq1 ?_
    obtain ⟨oq2, hq2, h⟩ := obind h
    cases oq2 with
    | none => cases h
    | some q2 =>
      try dsimp only at h
      refine pE_gfS rfl rfl hq2 ?_
      refine pE_jump 1 (pc' := 8) (ls' := [some (.ref a), some (.int p0)]) (st' := [.ref a, .ref q2]) (fun _ => rfl) ?_
      obtain ⟨oq6, hq6, h⟩ := obind h
      cases oq6 with
      | none => cases h
      | some q6 =>
        try dsimp only at h
        refine pE_gfS rfl rfl hq6 ?_
        refine pE_jump 1 (pc' := 12) (ls' := [some (.ref a), some (.int p0)]) (st' := [.int p0, .ref q6, .ref q2]) (fun _ => rfl) ?_
        obtain ⟨⟨v8, S7⟩, hv8, h⟩ := obind h
        try dsimp only at h
        refine pE_is (Bs := [.ref q6, .int p0]) (st := [.ref q2]) rfl rfl rfl (Nat.le_of_ble_eq_true rfl) (Nat.le_of_ble_eq_true rfl) (f_BP_valueAt sp d N S q6 p0 _ hv8) ?_
        obtain ⟨⟨v10, S9⟩, hv10, h⟩ := obind h
        try dsimp only at h
        refine pE_is (Bs := [.ref q2, .int v8]) (st := []) rfl rfl rfl (Nat.le_of_ble_eq_true rfl) (Nat.le_of_ble_eq_true rfl) (f_BP_valueAt sp d N S7 q2 v8 _ hv10) ?_
        refine pE_jump 1 (pc' := 19) (ls' := [some (.ref a), some (.int p0)]) (st' := [.int (-1), .int v10]) (fun _ => rfl) ?_
        refine pE_br (v10 = (-1)) rfl rfl (fun c12 => ?_) (fun c12 => ?_)
        · rw [if_pos c12] at h
          refine pE_jump 1 (pc' := 27) (ls' := [some (.ref a), some (.int p0)]) (st' := [.int 0]) (fun _ => rfl) ?_
          refine pE_weak [none, none] trivial ?_
          exact f_Wires_hangsBehind_27 sp d N 0 S9 _ h
        · rw [if_neg c12] at h
          refine pE_jump 2 (pc' := 27) (ls' := [some (.ref a), some (.int p0)]) (st' := [.int 1]) (fun _ => rfl) ?_
          refine pE_weak [none, none] trivial ?_
          exact f_Wires_hangsBehind_27 sp d N 1 S9 _ h
def F_Wires_measure_176 (N : Nat)  (x5 : Int32) (S : pm_S) : Option (Int32 × pm_S) :=
    some (4 * x5, S)
set_option maxHeartbeats 4000000 in
set_option maxRecDepth 20000 in
theorem f_Wires_measure_176 (sp : pm_I → List Value → pm_S → pm_O → Prop) (d N : Nat)  (x5 : Int32) (S : pm_S)  (r : (Int32 × pm_S)) (h : F_Wires_measure_176 N  x5 S = some r) : pmE pG (pm_rel pG sp (d + 2)) mi_Wires_measure 176 [none, none, none, none, none, some (.int x5), none, none, none, none, none] [] S (some (.int r.1), r.2) := by
  unfold F_Wires_measure_176 at h
  refine pE_jump 3 (pc' := 180) (ls' := [none, none, none, none, none, some (.int x5), none, none, none, none, none]) (st' := [.int (4 * x5)]) (fun _ => rfl) ?_
  cases h
  exact pE_ret rfl rfl rfl
def F_Wires_measure_164 (N : Nat)  (t0 : Int32) (t1 : Int32) (S : pm_S) : Option (Int32 × pm_S) :=
    some (t1 + t0, S)
set_option maxHeartbeats 4000000 in
set_option maxRecDepth 20000 in
theorem f_Wires_measure_164 (sp : pm_I → List Value → pm_S → pm_O → Prop) (d N : Nat)  (t0 : Int32) (t1 : Int32) (S : pm_S)  (r : (Int32 × pm_S)) (h : F_Wires_measure_164 N  t0 t1 S = some r) : pmE pG (pm_rel pG sp (d + 2)) mi_Wires_measure 164 [none, none, none, none, none, none, none, none, none, none, none] [.int t0, .int t1] S (some (.int r.1), r.2) := by
  unfold F_Wires_measure_164 at h
  refine pE_jump 1 (pc' := 165) (ls' := [none, none, none, none, none, none, none, none, none, none, none]) (st' := [.int (t1 + t0)]) (fun _ => rfl) ?_
  cases h
  exact pE_ret rfl rfl rfl
def F_Wires_measure_163 (N : Nat)  (t0 : Int32) (S : pm_S) : Option (Int32 × pm_S) :=
    F_Wires_measure_164 N 0 t0 S
set_option maxHeartbeats 4000000 in
set_option maxRecDepth 20000 in
theorem f_Wires_measure_163 (sp : pm_I → List Value → pm_S → pm_O → Prop) (d N : Nat)  (t0 : Int32) (S : pm_S)  (r : (Int32 × pm_S)) (h : F_Wires_measure_163 N  t0 S = some r) : pmE pG (pm_rel pG sp (d + 2)) mi_Wires_measure 163 [none, none, none, none, none, none, none, none, none, none, none] [.int t0] S (some (.int r.1), r.2) := by
  unfold F_Wires_measure_163 at h
  refine pE_jump 1 (pc' := 164) (ls' := [none, none, none, none, none, none, none, none, none, none, none]) (st' := [.int 0, .int t0]) (fun _ => rfl) ?_
  exact f_Wires_measure_164 sp d N 0 t0 S _ h
def F_Wires_measure_142 (N : Nat)  (x0 : Nat) (x3 : Int32) (x4 : Int32) (x5 : Int32) (S : pm_S) : Option (Int32 × pm_S) :=
    if x3 = 0 then
    ((F_Wires_hangsBehind N S x0 x4).bind fun (v15, S14) =>
    if v15 = 0 then
    F_Wires_measure_163 N (4 * x5) S14
    else
    F_Wires_measure_164 N 1 (4 * x5) S14)
    else
    F_Wires_measure_163 N (4 * x5) S
set_option maxHeartbeats 4000000 in
set_option maxRecDepth 20000 in
theorem f_Wires_measure_142 (sp : pm_I → List Value → pm_S → pm_O → Prop) (d N : Nat)  (x0 : Nat) (x3 : Int32) (x4 : Int32) (x5 : Int32) (S : pm_S)  (r : (Int32 × pm_S)) (h : F_Wires_measure_142 N  x0 x3 x4 x5 S = some r) : pmE pG (pm_rel pG sp (d + 2)) mi_Wires_measure 142 [some (.ref x0), none, none, some (.int x3), some (.int x4), some (.int x5), none, none, none, none, none] [] S (some (.int r.1), r.2) := by
  unfold F_Wires_measure_142 at h
  refine pE_jump 4 (pc' := 147) (ls' := [some (.ref x0), none, none, some (.int x3), some (.int x4), some (.int x5), none, none, none, none, none]) (st' := [.int x3, .int (4 * x5)]) (fun _ => rfl) ?_
  refine pE_br (¬ x3 = 0) rfl rfl (fun c17 => ?_) (fun c17 => ?_)
  · rw [if_neg c17] at h
    refine pE_weak [none, none, none, none, none, none, none, none, none, none, none] trivial ?_
    exact f_Wires_measure_163 sp d N (4 * x5) S _ h
  · have c17 := Decidable.not_not.mp c17
    rw [if_pos c17] at h
    refine pE_jump 2 (pc' := 153) (ls' := [some (.ref x0), none, none, some (.int x3), some (.int x4), some (.int x5), none, none, none, none, none]) (st' := [.int x4, .ref x0, .int (4 * x5)]) (fun _ => rfl) ?_
    obtain ⟨⟨v15, S14⟩, hv15, h⟩ := obind h
    try dsimp only at h
    refine pE_iv (Bs := [.int x4]) (st := [.int (4 * x5)]) 1 rfl (Or.inl ⟨rfl, rfl⟩) rfl rfl (Nat.le_of_ble_eq_true rfl) (Nat.le_of_ble_eq_true rfl) (g_Wires_hangsBehind hv15) (f_Wires_hangsBehind sp d N S x0 x4 _ hv15) ?_
    refine pE_br (v15 = 0) rfl rfl (fun c16 => ?_) (fun c16 => ?_)
    · rw [if_pos c16] at h
      refine pE_weak [none, none, none, none, none, none, none, none, none, none, none] trivial ?_
      exact f_Wires_measure_163 sp d N (4 * x5) S14 _ h
    · rw [if_neg c16] at h
      refine pE_jump 2 (pc' := 164) (ls' := [some (.ref x0), none, none, some (.int x3), some (.int x4), some (.int x5), none, none, none, none, none]) (st' := [.int 1, .int (4 * x5)]) (fun _ => rfl) ?_
      refine pE_weak [none, none, none, none, none, none, none, none, none, none, none] trivial ?_
      exact f_Wires_measure_164 sp d N 1 (4 * x5) S14 _ h
def F_Wires_measure_112 (N : Nat)  (x5 : Int32) (x9 : Int32) (S : pm_S) : Option (Int32 × pm_S) :=
    some (4 * (x5 + x9), S)
set_option maxHeartbeats 4000000 in
set_option maxRecDepth 20000 in
theorem f_Wires_measure_112 (sp : pm_I → List Value → pm_S → pm_O → Prop) (d N : Nat)  (x5 : Int32) (x9 : Int32) (S : pm_S)  (r : (Int32 × pm_S)) (h : F_Wires_measure_112 N  x5 x9 S = some r) : pmE pG (pm_rel pG sp (d + 2)) mi_Wires_measure 112 [none, none, none, none, none, some (.int x5), none, none, none, some (.int x9), none] [] S (some (.int r.1), r.2) := by
  unfold F_Wires_measure_112 at h
  refine pE_jump 5 (pc' := 119) (ls' := [none, none, none, none, none, some (.int x5), none, none, none, some (.int x9), none]) (st' := [.int (4 * (x5 + x9))]) (fun _ => rfl) ?_
  cases h
  exact pE_ret rfl rfl rfl
def F_Wires_measure_106 (N : Nat) (rec14 : Int32 → Int32 → Int32 → pm_S → Option (Int32 × pm_S)) (x0 : Nat) (x1 : Int32) (x3 : Int32) (x4 : Int32) (x5 : Int32) (x6 : Int32) (x7 : Int32) (x9 : Int32) (S : pm_S) : Option (Int32 × pm_S) :=
    if x9 = (-1) then
    ((F_Wires_wireBehind N S x0 x4 x3).bind fun (v13, S12) =>
    if v13 = (-1) then
    F_Wires_measure_142 N x0 x3 x4 (x5 + x7) S12
    else
    rec14 v13 (x5 + x7) (x6 + 1) S12)
    else
    F_Wires_measure_112 N x5 x9 S
set_option maxHeartbeats 4000000 in
set_option maxRecDepth 20000 in
theorem f_Wires_measure_106 (sp : pm_I → List Value → pm_S → pm_O → Prop) (d N : Nat) (rec14 : Int32 → Int32 → Int32 → pm_S → Option (Int32 × pm_S)) (x0 : Nat) (x1 : Int32) (x3 : Int32) (x4 : Int32) (x5 : Int32) (x6 : Int32) (x7 : Int32) (x9 : Int32) (S : pm_S) (hrec14 : ∀ (y1 : Int32) (y2 : Int32) (y3 : Int32) (U : pm_S) (r : (Int32 × pm_S)), rec14 y1 y2 y3 U = some r → pmE pG (pm_rel pG sp (d + 2)) mi_Wires_measure 14 [some (.ref x0), some (.int x1), none, some (.int x3), some (.int y1), some (.int y2), some (.int y3), none, none, none, none] [] U (some (.int r.1), r.2)) (r : (Int32 × pm_S)) (h : F_Wires_measure_106 N rec14 x0 x1 x3 x4 x5 x6 x7 x9 S = some r) : pmE pG (pm_rel pG sp (d + 2)) mi_Wires_measure 106 [some (.ref x0), some (.int x1), none, some (.int x3), some (.int x4), some (.int x5), some (.int x6), some (.int x7), none, some (.int x9), none] [] S (some (.int r.1), r.2) := by
  unfold F_Wires_measure_106 at h
  refine pE_jump 2 (pc' := 109) (ls' := [some (.ref x0), some (.int x1), none, some (.int x3), some (.int x4), some (.int x5), some (.int x6), some (.int x7), none, some (.int x9), none]) (st' := [.int (-1), .int x9]) (fun _ => rfl) ?_
  refine pE_br (x9 = (-1)) rfl rfl (fun c19 => ?_) (fun c19 => ?_)
  · rw [if_pos c19] at h
    refine pE_jump 7 (pc' := 131) (ls' := [some (.ref x0), some (.int x1), none, some (.int x3), some (.int x4), some (.int (x5 + x7)), some (.int x6), some (.int x7), none, some (.int x9), none]) (st' := [.int x3, .int x4, .ref x0]) (fun _ => rfl) ?_
    obtain ⟨⟨v13, S12⟩, hv13, h⟩ := obind h
    try dsimp only at h
    refine pE_iv (Bs := [.int x4, .int x3]) (st := []) 1 rfl (Or.inl ⟨rfl, rfl⟩) rfl rfl (Nat.le_of_ble_eq_true rfl) (Nat.le_of_ble_eq_true rfl) (g_Wires_wireBehind hv13) (f_Wires_wireBehind sp d N S x0 x4 x3 _ hv13) ?_
    refine pE_jump 3 (pc' := 139) (ls' := [some (.ref x0), some (.int x1), none, some (.int x3), some (.int x4), some (.int (x5 + x7)), some (.int x6), some (.int x7), none, some (.int x9), some (.int v13)]) (st' := [.int (-1), .int v13]) (fun _ => rfl) ?_
    refine pE_br (¬ v13 = (-1)) rfl rfl (fun c18 => ?_) (fun c18 => ?_)
    · rw [if_neg c18] at h
      refine pE_jump 4 (pc' := 14) (ls' := [some (.ref x0), some (.int x1), none, some (.int x3), some (.int v13), some (.int (x5 + x7)), some (.int (x6 + 1)), some (.int x7), none, some (.int x9), some (.int v13)]) (st' := []) (fun _ => rfl) ?_
      refine pE_weak [some (.ref x0), some (.int x1), none, some (.int x3), some (.int v13), some (.int (x5 + x7)), some (.int (x6 + 1)), none, none, none, none] ⟨rfl, ⟨rfl, ⟨rfl, ⟨rfl, ⟨rfl, ⟨rfl, trivial⟩⟩⟩⟩⟩⟩ ?_
      exact hrec14 v13 (x5 + x7) (x6 + 1) S12 _ h
    · have c18 := Decidable.not_not.mp c18
      rw [if_pos c18] at h
      refine pE_weak [some (.ref x0), none, none, some (.int x3), some (.int x4), some (.int (x5 + x7)), none, none, none, none, none] ⟨rfl, ⟨rfl, ⟨rfl, ⟨rfl, trivial⟩⟩⟩⟩ ?_
      exact f_Wires_measure_142 sp d N x0 x3 x4 (x5 + x7) S12 _ h
  · rw [if_neg c19] at h
    refine pE_weak [none, none, none, none, none, some (.int x5), none, none, none, some (.int x9), none] ⟨rfl, ⟨rfl, trivial⟩⟩ ?_
    exact f_Wires_measure_112 sp d N x5 x9 S _ h
def F_Wires_measure_96 (N : Nat)  (x5 : Int32) (x8 : Int32) (S : pm_S) : Option (Int32 × pm_S) :=
    some ((4 * (x5 + x8)) + 2, S)
set_option maxHeartbeats 4000000 in
set_option maxRecDepth 20000 in
theorem f_Wires_measure_96 (sp : pm_I → List Value → pm_S → pm_O → Prop) (d N : Nat)  (x5 : Int32) (x8 : Int32) (S : pm_S)  (r : (Int32 × pm_S)) (h : F_Wires_measure_96 N  x5 x8 S = some r) : pmE pG (pm_rel pG sp (d + 2)) mi_Wires_measure 96 [none, none, none, none, none, some (.int x5), none, none, some (.int x8), none, none] [] S (some (.int r.1), r.2) := by
  unfold F_Wires_measure_96 at h
  refine pE_jump 7 (pc' := 105) (ls' := [none, none, none, none, none, some (.int x5), none, none, some (.int x8), none, none]) (st' := [.int ((4 * (x5 + x8)) + 2)]) (fun _ => rfl) ?_
  cases h
  exact pE_ret rfl rfl rfl
def F_Wires_measure_52 (N : Nat) (rec14 : Int32 → Int32 → Int32 → pm_S → Option (Int32 × pm_S)) (x0 : Nat) (x1 : Int32) (x3 : Int32) (x4 : Int32) (x5 : Int32) (x6 : Int32) (x7 : Int32) (t0 : Int32) (S : pm_S) : Option (Int32 × pm_S) :=
    (F_Wires_toFirstBreak N S x0 x4 x3 x7).bind fun (v11, S10) =>
    if t0 = (-1) then
    F_Wires_measure_106 N rec14 x0 x1 x3 x4 x5 x6 x7 v11 S10
    else
    (if v11 = (-1) then
    F_Wires_measure_96 N x5 t0 S10
    else
    (if t0 < v11 then
    F_Wires_measure_96 N x5 t0 S10
    else
    (if t0 = v11 then
    (if x3 = 1 then
    F_Wires_measure_96 N x5 t0 S10
    else
    F_Wires_measure_106 N rec14 x0 x1 x3 x4 x5 x6 x7 v11 S10)
    else
    F_Wires_measure_106 N rec14 x0 x1 x3 x4 x5 x6 x7 v11 S10)))
set_option maxHeartbeats 4000000 in
set_option maxRecDepth 20000 in
theorem f_Wires_measure_52 (sp : pm_I → List Value → pm_S → pm_O → Prop) (d N : Nat) (rec14 : Int32 → Int32 → Int32 → pm_S → Option (Int32 × pm_S)) (x0 : Nat) (x1 : Int32) (x3 : Int32) (x4 : Int32) (x5 : Int32) (x6 : Int32) (x7 : Int32) (t0 : Int32) (S : pm_S) (hrec14 : ∀ (y1 : Int32) (y2 : Int32) (y3 : Int32) (U : pm_S) (r : (Int32 × pm_S)), rec14 y1 y2 y3 U = some r → pmE pG (pm_rel pG sp (d + 2)) mi_Wires_measure 14 [some (.ref x0), some (.int x1), none, some (.int x3), some (.int y1), some (.int y2), some (.int y3), none, none, none, none] [] U (some (.int r.1), r.2)) (r : (Int32 × pm_S)) (h : F_Wires_measure_52 N rec14 x0 x1 x3 x4 x5 x6 x7 t0 S = some r) : pmE pG (pm_rel pG sp (d + 2)) mi_Wires_measure 52 [some (.ref x0), some (.int x1), none, some (.int x3), some (.int x4), some (.int x5), some (.int x6), some (.int x7), none, none, none] [.int t0] S (some (.int r.1), r.2) := by
  unfold F_Wires_measure_52 at h
  refine pE_jump 5 (pc' := 60) (ls' := [some (.ref x0), some (.int x1), none, some (.int x3), some (.int x4), some (.int x5), some (.int x6), some (.int x7), some (.int t0), none, none]) (st' := [.int x7, .int x3, .int x4, .ref x0]) (fun _ => rfl) ?_
  obtain ⟨⟨v11, S10⟩, hv11, h⟩ := obind h
  try dsimp only at h
  refine pE_iv (Bs := [.int x4, .int x3, .int x7]) (st := []) 1 rfl (Or.inl ⟨rfl, rfl⟩) rfl rfl (Nat.le_of_ble_eq_true rfl) (Nat.le_of_ble_eq_true rfl) (g_Wires_toFirstBreak hv11) (f_Wires_toFirstBreak sp d N S x0 x4 x3 x7 _ hv11) ?_
  refine pE_jump 3 (pc' := 68) (ls' := [some (.ref x0), some (.int x1), none, some (.int x3), some (.int x4), some (.int x5), some (.int x6), some (.int x7), some (.int t0), some (.int v11), none]) (st' := [.int (-1), .int t0]) (fun _ => rfl) ?_
  refine pE_br (t0 = (-1)) rfl rfl (fun c24 => ?_) (fun c24 => ?_)
  · rw [if_pos c24] at h
    refine pE_weak [some (.ref x0), some (.int x1), none, some (.int x3), some (.int x4), some (.int x5), some (.int x6), some (.int x7), none, some (.int v11), none] ⟨rfl, ⟨rfl, ⟨rfl, ⟨rfl, ⟨rfl, ⟨rfl, ⟨rfl, ⟨rfl, trivial⟩⟩⟩⟩⟩⟩⟩⟩ ?_
    exact f_Wires_measure_106 sp d N rec14 x0 x1 x3 x4 x5 x6 x7 v11 S10 hrec14 _ h
  · rw [if_neg c24] at h
    refine pE_jump 2 (pc' := 74) (ls' := [some (.ref x0), some (.int x1), none, some (.int x3), some (.int x4), some (.int x5), some (.int x6), some (.int x7), some (.int t0), some (.int v11), none]) (st' := [.int (-1), .int v11]) (fun _ => rfl) ?_
    refine pE_br (v11 = (-1)) rfl rfl (fun c23 => ?_) (fun c23 => ?_)
    · rw [if_pos c23] at h
      refine pE_weak [none, none, none, none, none, some (.int x5), none, none, some (.int t0), none, none] ⟨rfl, ⟨rfl, trivial⟩⟩ ?_
      exact f_Wires_measure_96 sp d N x5 t0 S10 _ h
    · rw [if_neg c23] at h
      refine pE_jump 2 (pc' := 81) (ls' := [some (.ref x0), some (.int x1), none, some (.int x3), some (.int x4), some (.int x5), some (.int x6), some (.int x7), some (.int t0), some (.int v11), none]) (st' := [.int v11, .int t0]) (fun _ => rfl) ?_
      refine pE_br (t0 < v11) rfl rfl (fun c22 => ?_) (fun c22 => ?_)
      · rw [if_pos c22] at h
        refine pE_weak [none, none, none, none, none, some (.int x5), none, none, some (.int t0), none, none] ⟨rfl, ⟨rfl, trivial⟩⟩ ?_
        exact f_Wires_measure_96 sp d N x5 t0 S10 _ h
      · rw [if_neg c22] at h
        refine pE_jump 2 (pc' := 88) (ls' := [some (.ref x0), some (.int x1), none, some (.int x3), some (.int x4), some (.int x5), some (.int x6), some (.int x7), some (.int t0), some (.int v11), none]) (st' := [.int v11, .int t0]) (fun _ => rfl) ?_
        refine pE_br (¬ t0 = v11) rfl rfl (fun c21 => ?_) (fun c21 => ?_)
        · rw [if_neg c21] at h
          refine pE_weak [some (.ref x0), some (.int x1), none, some (.int x3), some (.int x4), some (.int x5), some (.int x6), some (.int x7), none, some (.int v11), none] ⟨rfl, ⟨rfl, ⟨rfl, ⟨rfl, ⟨rfl, ⟨rfl, ⟨rfl, ⟨rfl, trivial⟩⟩⟩⟩⟩⟩⟩⟩ ?_
          exact f_Wires_measure_106 sp d N rec14 x0 x1 x3 x4 x5 x6 x7 v11 S10 hrec14 _ h
        · have c21 := Decidable.not_not.mp c21
          rw [if_pos c21] at h
          refine pE_jump 2 (pc' := 93) (ls' := [some (.ref x0), some (.int x1), none, some (.int x3), some (.int x4), some (.int x5), some (.int x6), some (.int x7), some (.int t0), some (.int v11), none]) (st' := [.int 1, .int x3]) (fun _ => rfl) ?_
          refine pE_br (¬ x3 = 1) rfl rfl (fun c20 => ?_) (fun c20 => ?_)
          · rw [if_neg c20] at h
            refine pE_weak [some (.ref x0), some (.int x1), none, some (.int x3), some (.int x4), some (.int x5), some (.int x6), some (.int x7), none, some (.int v11), none] ⟨rfl, ⟨rfl, ⟨rfl, ⟨rfl, ⟨rfl, ⟨rfl, ⟨rfl, ⟨rfl, trivial⟩⟩⟩⟩⟩⟩⟩⟩ ?_
            exact f_Wires_measure_106 sp d N rec14 x0 x1 x3 x4 x5 x6 x7 v11 S10 hrec14 _ h
          · have c20 := Decidable.not_not.mp c20
            rw [if_pos c20] at h
            refine pE_weak [none, none, none, none, none, some (.int x5), none, none, some (.int t0), none, none] ⟨rfl, ⟨rfl, trivial⟩⟩ ?_
            exact f_Wires_measure_96 sp d N x5 t0 S10 _ h
def B_Wires_measure_14 (N : Nat)  (rec14 : Int32 → Int32 → Int32 → pm_S → Option (Int32 × pm_S)) (x0 : Nat) (x1 : Int32) (x3 : Int32) (x4 : Int32) (x5 : Int32) (x6 : Int32) (S : pm_S) : Option (Int32 × pm_S) :=
    if 7 ≤ x6 then
    F_Wires_measure_176 N x5 S
    else
    ((oR S x0 9 9).bind fun oq3 => match oq3 with
    | none => none
    | some q3 =>
    (F_BP_cableOf N S x4).bind fun (v7, S6) =>
    (F_Plan_lengthOf N S6 q3 v7).bind fun (v9, S8) =>
    if x1 = 0 then
    F_Wires_measure_52 N rec14 x0 x1 x3 x4 x5 x6 v9 (-1) S8
    else
    ((F_Wires_toFirstTouch N S8 x0 x4 x3 v9).bind fun (v26, S25) =>
    F_Wires_measure_52 N rec14 x0 x1 x3 x4 x5 x6 v9 v26 S25))
def F_Wires_measure_14 (N : Nat)  (x0 : Nat) (x1 : Int32) (x3 : Int32) : Nat → Int32 → Int32 → Int32 → pm_S → Option (Int32 × pm_S)
  | 0 => fun _ _ _ _ => none
  | n + 1 => fun x4 x5 x6 S => B_Wires_measure_14 N  (F_Wires_measure_14 N  x0 x1 x3 n) x0 x1 x3 x4 x5 x6 S
set_option maxHeartbeats 4000000 in
set_option maxRecDepth 20000 in
theorem f_Wires_measure_14 (sp : pm_I → List Value → pm_S → pm_O → Prop) (d N : Nat)  (x0 : Nat) (x1 : Int32) (x3 : Int32)  : ∀ (n : Nat) (x4 : Int32) (x5 : Int32) (x6 : Int32) (S : pm_S) (r : (Int32 × pm_S)), F_Wires_measure_14 N  x0 x1 x3 n x4 x5 x6 S = some r → pmE pG (pm_rel pG sp (d + 2)) mi_Wires_measure 14 [some (.ref x0), some (.int x1), none, some (.int x3), some (.int x4), some (.int x5), some (.int x6), none, none, none, none] [] S (some (.int r.1), r.2) := by
  intro n
  induction n with
  | zero =>
    intro x4 x5 x6 S r h
    cases h
  | succ n ih =>
    intro x4 x5 x6 S r h
    replace h : B_Wires_measure_14 N  (F_Wires_measure_14 N  x0 x1 x3 n) x0 x1 x3 x4 x5 x6 S = some r := h
    have hrec14 := ih
    generalize F_Wires_measure_14 N  x0 x1 x3 n = rec14 at h hrec14
    unfold B_Wires_measure_14 at h
    refine pE_jump 2 (pc' := 18) (ls' := [some (.ref x0), some (.int x1), none, some (.int x3), some (.int x4), some (.int x5), some (.int x6), none, none, none, none]) (st' := [.int 7, .int x6]) (fun _ => rfl) ?_
    refine pE_br (7 ≤ x6) rfl rfl (fun c28 => ?_) (fun c28 => ?_)
    · rw [if_pos c28] at h
      refine pE_weak [none, none, none, none, none, some (.int x5), none, none, none, none, none] ⟨rfl, trivial⟩ ?_
      exact f_Wires_measure_176 sp d N x5 S _ h
    · rw [if_neg c28] at h
      refine pE_jump 1 (pc' := 22) (ls' := [some (.ref x0), some (.int x1), none, some (.int x3), some (.int x4), some (.int x5), some (.int x6), none, none, none, none]) (st' := [.ref x0]) (fun _ => rfl) ?_
      obtain ⟨oq3, hq3, h⟩ := obind h
      cases oq3 with
      | none => cases h
      | some q3 =>
        try dsimp only at h
        refine pE_gfS rfl rfl hq3 ?_
        refine pE_jump 1 (pc' := 27) (ls' := [some (.ref x0), some (.int x1), none, some (.int x3), some (.int x4), some (.int x5), some (.int x6), none, none, none, none]) (st' := [.int x4, .ref q3]) (fun _ => rfl) ?_
        obtain ⟨⟨v7, S6⟩, hv7, h⟩ := obind h
        try dsimp only at h
        refine pE_is (Bs := [.int x4]) (st := [.ref q3]) rfl rfl rfl (Nat.le_of_ble_eq_true rfl) (Nat.le_of_ble_eq_true rfl) (f_BP_cableOf sp (d + 1) N S x4 _ hv7) ?_
        obtain ⟨⟨v9, S8⟩, hv9, h⟩ := obind h
        try dsimp only at h
        refine pE_iv (Bs := [.int v7]) (st := []) 1 rfl (Or.inl ⟨rfl, rfl⟩) rfl rfl (Nat.le_of_ble_eq_true rfl) (Nat.le_of_ble_eq_true rfl) (g_Plan_lengthOf hv9) (f_Plan_lengthOf sp d N S6 q3 v7 _ hv9) ?_
        refine pE_jump 2 (pc' := 36) (ls' := [some (.ref x0), some (.int x1), none, some (.int x3), some (.int x4), some (.int x5), some (.int x6), some (.int v9), none, none, none]) (st' := [.int x1]) (fun _ => rfl) ?_
        refine pE_br (x1 = 0) rfl rfl (fun c27 => ?_) (fun c27 => ?_)
        · rw [if_pos c27] at h
          refine pE_jump 1 (pc' := 52) (ls' := [some (.ref x0), some (.int x1), none, some (.int x3), some (.int x4), some (.int x5), some (.int x6), some (.int v9), none, none, none]) (st' := [.int (-1)]) (fun _ => rfl) ?_
          exact f_Wires_measure_52 sp d N rec14 x0 x1 x3 x4 x5 x6 v9 (-1) S8 hrec14 _ h
        · rw [if_neg c27] at h
          refine pE_jump 4 (pc' := 45) (ls' := [some (.ref x0), some (.int x1), none, some (.int x3), some (.int x4), some (.int x5), some (.int x6), some (.int v9), none, none, none]) (st' := [.int v9, .int x3, .int x4, .ref x0]) (fun _ => rfl) ?_
          obtain ⟨⟨v26, S25⟩, hv26, h⟩ := obind h
          try dsimp only at h
          refine pE_iv (Bs := [.int x4, .int x3, .int v9]) (st := []) 1 rfl (Or.inl ⟨rfl, rfl⟩) rfl rfl (Nat.le_of_ble_eq_true rfl) (Nat.le_of_ble_eq_true rfl) (g_Wires_toFirstTouch hv26) (f_Wires_toFirstTouch sp d N S8 x0 x4 x3 v9 _ hv26) ?_
          refine pE_jump 1 (pc' := 52) (ls' := [some (.ref x0), some (.int x1), none, some (.int x3), some (.int x4), some (.int x5), some (.int x6), some (.int v9), none, none, none]) (st' := [.int v26]) (fun _ => rfl) ?_
          exact f_Wires_measure_52 sp d N rec14 x0 x1 x3 x4 x5 x6 v9 v26 S25 hrec14 _ h
def F_Wires_measure (N : Nat) (S : pm_S) (a : Nat) (p0 : Int32) (p1 : Int32) (p2 : Int32) : Option (Int32 × pm_S) :=
    if rcv S a 9 = true then
    ((F_Wires_wireAt N S a p1 p2).bind fun (v2, S1) =>
    F_Wires_measure_14 N a p0 p2 N v2 0 0 S1)
    else none
theorem g_Wires_measure {N : Nat} {S : pm_S} {a : Nat} {p0 : Int32} {p1 : Int32} {p2 : Int32} {r : (Int32 × pm_S)} (h : F_Wires_measure N S a p0 p1 p2 = some r) : rcv S a 9 = true := by
  unfold F_Wires_measure at h
  by_cases c : rcv S a 9 = true
  · exact c
  · rw [if_neg c] at h; cases h
set_option maxHeartbeats 4000000 in
set_option maxRecDepth 20000 in
theorem f_Wires_measure (sp : pm_I → List Value → pm_S → pm_O → Prop) (d N : Nat) (S : pm_S) (a : Nat) (p0 : Int32) (p1 : Int32) (p2 : Int32) (r : (Int32 × pm_S)) (h : F_Wires_measure N S a p0 p1 p2 = some r) : pm_rel pG sp (d + 3) mi_Wires_measure [.ref a, .int p0, .int p1, .int p2] S (some (.int r.1), r.2) := by
  have hg := g_Wires_measure h
  unfold F_Wires_measure at h
  rw [if_pos hg] at h
  refine pE_rel (d := d + 2) ?_
  show pmE pG _ mi_Wires_measure 0 [some (.ref a), some (.int p0), some (.int p1), some (.int p2), none, none, none, none, none, none, none] [] S _
  refine pE_jump 3 (pc' := 3) (ls' := [some (.ref a), some (.int p0), some (.int p1), some (.int p2), none, none, none, none, none, none, none]) (st' := [.int p2, .int p1, .ref a]) (fun _ => rfl) ?_
  obtain ⟨⟨v2, S1⟩, hv2, h⟩ := obind h
  try dsimp only at h
  refine pE_iv (Bs := [.int p1, .int p2]) (st := []) 1 rfl (Or.inl ⟨rfl, rfl⟩) rfl rfl (Nat.le_of_ble_eq_true rfl) (Nat.le_of_ble_eq_true rfl) (g_Wires_wireAt hv2) (f_Wires_wireAt sp d N S a p1 p2 _ hv2) ?_
  refine pE_jump 5 (pc' := 14) (ls' := [some (.ref a), some (.int p0), some (.int p1), some (.int p2), some (.int v2), some (.int 0), some (.int 0), none, none, none, none]) (st' := []) (fun _ => rfl) ?_
  refine pE_weak [some (.ref a), some (.int p0), none, some (.int p2), some (.int v2), some (.int 0), some (.int 0), none, none, none, none] ⟨rfl, ⟨rfl, ⟨rfl, ⟨rfl, ⟨rfl, ⟨rfl, trivial⟩⟩⟩⟩⟩⟩ ?_
  exact f_Wires_measure_14 sp d N a p0 p2 N v2 0 0 S1 _ h
def F_BP_metres_33 (N : Nat)   (S : pm_S) : Option (Int32 × pm_S) :=
    some ((-1), S)
set_option maxHeartbeats 4000000 in
set_option maxRecDepth 20000 in
theorem f_BP_metres_33 (sp : pm_I → List Value → pm_S → pm_O → Prop) (d N : Nat)   (S : pm_S)  (r : (Int32 × pm_S)) (h : F_BP_metres_33 N   S = some r) : pmE pG (pm_rel pG sp (d + 5)) mi_BP_metres 33 [none, none, none, none, none, none, none, none] [] S (some (.int r.1), r.2) := by
  unfold F_BP_metres_33 at h
  refine pE_jump 1 (pc' := 34) (ls' := [none, none, none, none, none, none, none, none]) (st' := [.int (-1)]) (fun _ => rfl) ?_
  cases h
  exact pE_ret rfl rfl rfl
def F_BP_metres (N : Nat) (S : pm_S) (a : Nat) (p0 : Int32) (p1 : Int32) (p2 : Int32) (p3 : Int32) (p4 : Int32) (p5 : Int32) : Option (Int32 × pm_S) :=
    if rcv S a 10 = true then
    ((F_BP_planWith N S a p0 p1).bind fun (oq2, S1) => match oq2 with
    | none => F_BP_metres_33 N S1
    | some q2 =>
    (F_Plan_hasPair N S1 q2 p3 p4).bind fun (v4, S3) =>
    if v4 = 0 then
    F_BP_metres_33 N S3
    else
    ((F_BP_isEnd N S3 p5).bind fun (v6, S5) =>
    if v6 = 0 then
    F_BP_metres_33 N S5
    else
    ((oR S5 a 10 3).bind fun oq7 => match oq7 with
    | none => none
    | some q7 =>
    (oR S5 q7 0 0).bind fun oq8 => match oq8 with
    | none => none
    | some q8 =>
    (F_Wires_lay N S5 q8 q2 p1).bind fun S9 =>
    (oR S9 a 10 3).bind fun oq10 => match oq10 with
    | none => none
    | some q10 =>
    (oR S9 q10 0 0).bind fun oq11 => match oq11 with
    | none => none
    | some q11 =>
    (F_BP_siteOf N S9 p3 p4).bind fun (v15, S14) =>
    (F_Wires_measure N S14 q11 p2 v15 p5).bind fun (v17, S16) =>
    some (v17, S16))))
    else none
theorem g_BP_metres {N : Nat} {S : pm_S} {a : Nat} {p0 : Int32} {p1 : Int32} {p2 : Int32} {p3 : Int32} {p4 : Int32} {p5 : Int32} {r : (Int32 × pm_S)} (h : F_BP_metres N S a p0 p1 p2 p3 p4 p5 = some r) : rcv S a 10 = true := by
  unfold F_BP_metres at h
  by_cases c : rcv S a 10 = true
  · exact c
  · rw [if_neg c] at h; cases h
set_option maxHeartbeats 4000000 in
set_option maxRecDepth 20000 in
theorem f_BP_metres (sp : pm_I → List Value → pm_S → pm_O → Prop) (d N : Nat) (S : pm_S) (a : Nat) (p0 : Int32) (p1 : Int32) (p2 : Int32) (p3 : Int32) (p4 : Int32) (p5 : Int32) (r : (Int32 × pm_S)) (h : F_BP_metres N S a p0 p1 p2 p3 p4 p5 = some r) : pm_rel pG sp (d + 6) mi_BP_metres [.ref a, .int p0, .int p1, .int p2, .int p3, .int p4, .int p5] S (some (.int r.1), r.2) := by
  have hg := g_BP_metres h
  unfold F_BP_metres at h
  rw [if_pos hg] at h
  refine pE_rel (d := d + 5) ?_
  show pmE pG _ mi_BP_metres 0 [some (.ref a), some (.int p0), some (.int p1), some (.int p2), some (.int p3), some (.int p4), some (.int p5), none] [] S _
  refine pE_jump 3 (pc' := 3) (ls' := [some (.ref a), some (.int p0), some (.int p1), some (.int p2), some (.int p3), some (.int p4), some (.int p5), none]) (st' := [.int p1, .int p0, .ref a]) (fun _ => rfl) ?_
  obtain ⟨⟨oq2, S1⟩, hq2, h⟩ := obind h
  try dsimp only at h
  cases oq2 with
  | none =>
    try dsimp only at h
    refine pE_iv (Bs := [.int p0, .int p1]) (st := []) 1 rfl (Or.inl ⟨rfl, rfl⟩) rfl rfl (Nat.le_of_ble_eq_true rfl) (Nat.le_of_ble_eq_true rfl) (g_BP_planWith hq2) (f_BP_planWith sp (d + 1) N S a p0 p1 _ hq2) ?_
    refine pE_jump 3 (pc' := 33) (ls' := [some (.ref a), some (.int p0), some (.int p1), some (.int p2), some (.int p3), some (.int p4), some (.int p5), some (.null)]) (st' := []) (fun _ => rfl) ?_
    refine pE_weak [none, none, none, none, none, none, none, none] trivial ?_
    exact f_BP_metres_33 sp d N S1 _ h
  | some q2 =>
    try dsimp only at h
    refine pE_iv (Bs := [.int p0, .int p1]) (st := []) 1 rfl (Or.inl ⟨rfl, rfl⟩) rfl rfl (Nat.le_of_ble_eq_true rfl) (Nat.le_of_ble_eq_true rfl) (g_BP_planWith hq2) (f_BP_planWith sp (d + 1) N S a p0 p1 _ hq2) ?_
    refine pE_jump 6 (pc' := 19) (ls' := [some (.ref a), some (.int p0), some (.int p1), some (.int p2), some (.int p3), some (.int p4), some (.int p5), some (.ref q2)]) (st' := [.int p4, .int p3, .ref q2]) (fun _ => rfl) ?_
    obtain ⟨⟨v4, S3⟩, hv4, h⟩ := obind h
    try dsimp only at h
    refine pE_iv (Bs := [.int p3, .int p4]) (st := []) 1 rfl (Or.inl ⟨rfl, rfl⟩) rfl rfl (Nat.le_of_ble_eq_true rfl) (Nat.le_of_ble_eq_true rfl) (g_Plan_hasPair hv4) (f_Plan_hasPair sp (d + 2) N S1 q2 p3 p4 _ hv4) ?_
    refine pE_br (v4 = 0) rfl rfl (fun c19 => ?_) (fun c19 => ?_)
    · rw [if_pos c19] at h
      refine pE_weak [none, none, none, none, none, none, none, none] trivial ?_
      exact f_BP_metres_33 sp d N S3 _ h
    · rw [if_neg c19] at h
      refine pE_jump 1 (pc' := 27) (ls' := [some (.ref a), some (.int p0), some (.int p1), some (.int p2), some (.int p3), some (.int p4), some (.int p5), some (.ref q2)]) (st' := [.int p5]) (fun _ => rfl) ?_
      obtain ⟨⟨v6, S5⟩, hv6, h⟩ := obind h
      try dsimp only at h
      refine pE_is (Bs := [.int p5]) (st := []) rfl rfl rfl (Nat.le_of_ble_eq_true rfl) (Nat.le_of_ble_eq_true rfl) (f_BP_isEnd sp (d + 4) N S3 p5 _ hv6) ?_
      refine pE_br (¬ v6 = 0) rfl rfl (fun c18 => ?_) (fun c18 => ?_)
      · rw [if_neg c18] at h
        refine pE_jump 1 (pc' := 36) (ls' := [some (.ref a), some (.int p0), some (.int p1), some (.int p2), some (.int p3), some (.int p4), some (.int p5), some (.ref q2)]) (st' := [.ref a]) (fun _ => rfl) ?_
        obtain ⟨oq7, hq7, h⟩ := obind h
        cases oq7 with
        | none => cases h
        | some q7 =>
          try dsimp only at h
          refine pE_gfS rfl rfl hq7 ?_
          obtain ⟨oq8, hq8, h⟩ := obind h
          cases oq8 with
          | none => cases h
          | some q8 =>
            try dsimp only at h
            refine pE_gfS rfl rfl hq8 ?_
            refine pE_jump 2 (pc' := 45) (ls' := [some (.ref a), some (.int p0), some (.int p1), some (.int p2), some (.int p3), some (.int p4), some (.int p5), some (.ref q2)]) (st' := [.int p1, .ref q2, .ref q8]) (fun _ => rfl) ?_
            obtain ⟨S9, hS9, h⟩ := obind h
            refine pE_iv (Bs := [.ref q2, .int p1]) (st := []) 1 rfl (Or.inl ⟨rfl, rfl⟩) rfl rfl (Nat.le_of_ble_eq_true rfl) (Nat.le_of_ble_eq_true rfl) (g_Wires_lay hS9) (f_Wires_lay sp d N S5 q8 q2 p1 _ hS9) ?_
            refine pE_jump 1 (pc' := 49) (ls' := [some (.ref a), some (.int p0), some (.int p1), some (.int p2), some (.int p3), some (.int p4), some (.int p5), some (.ref q2)]) (st' := [.ref a]) (fun _ => rfl) ?_
            obtain ⟨oq10, hq10, h⟩ := obind h
            cases oq10 with
            | none => cases h
            | some q10 =>
              try dsimp only at h
              refine pE_gfS rfl rfl hq10 ?_
              obtain ⟨oq11, hq11, h⟩ := obind h
              cases oq11 with
              | none => cases h
              | some q11 =>
                try dsimp only at h
                refine pE_gfS rfl rfl hq11 ?_
                refine pE_jump 3 (pc' := 60) (ls' := [some (.ref a), some (.int p0), some (.int p1), some (.int p2), some (.int p3), some (.int p4), some (.int p5), some (.ref q2)]) (st' := [.int p4, .int p3, .int p2, .ref q11]) (fun _ => rfl) ?_
                obtain ⟨⟨v15, S14⟩, hv15, h⟩ := obind h
                try dsimp only at h
                refine pE_is (Bs := [.int p3, .int p4]) (st := [.int p2, .ref q11]) rfl rfl rfl (Nat.le_of_ble_eq_true rfl) (Nat.le_of_ble_eq_true rfl) (f_BP_siteOf sp (d + 4) N S9 p3 p4 _ hv15) ?_
                refine pE_jump 1 (pc' := 65) (ls' := [some (.ref a), some (.int p0), some (.int p1), some (.int p2), some (.int p3), some (.int p4), some (.int p5), some (.ref q2)]) (st' := [.int p5, .int v15, .int p2, .ref q11]) (fun _ => rfl) ?_
                obtain ⟨⟨v17, S16⟩, hv17, h⟩ := obind h
                try dsimp only at h
                refine pE_iv (Bs := [.int p2, .int v15, .int p5]) (st := []) 1 rfl (Or.inl ⟨rfl, rfl⟩) rfl rfl (Nat.le_of_ble_eq_true rfl) (Nat.le_of_ble_eq_true rfl) (g_Wires_measure hv17) (f_Wires_measure sp (d + 2) N S14 q11 p2 v15 p5 _ hv17) ?_
                cases h
                exact pE_ret rfl rfl rfl
      · have c18 := Decidable.not_not.mp c18
        rw [if_pos c18] at h
        refine pE_weak [none, none, none, none, none, none, none, none] trivial ?_
        exact f_BP_metres_33 sp d N S5 _ h
def F_Wires_homeOf (N : Nat) (S : pm_S) (a : Nat) (p0 : Int32) : Option (Int32 × pm_S) :=
    if rcv S a 9 = true then
    ((oR S a 9 10).bind fun oq1 => match oq1 with
    | none => none
    | some q1 =>
    (oR S q1 1 3).bind fun oq2 => match oq2 with
    | none => none
    | some q2 =>
    (F_BP_valueAt N S q2 p0).bind fun (v4, S3) =>
    some (v4, S3))
    else none
theorem g_Wires_homeOf {N : Nat} {S : pm_S} {a : Nat} {p0 : Int32} {r : (Int32 × pm_S)} (h : F_Wires_homeOf N S a p0 = some r) : rcv S a 9 = true := by
  unfold F_Wires_homeOf at h
  by_cases c : rcv S a 9 = true
  · exact c
  · rw [if_neg c] at h; cases h
set_option maxHeartbeats 4000000 in
set_option maxRecDepth 20000 in
theorem f_Wires_homeOf (sp : pm_I → List Value → pm_S → pm_O → Prop) (d N : Nat) (S : pm_S) (a : Nat) (p0 : Int32) (r : (Int32 × pm_S)) (h : F_Wires_homeOf N S a p0 = some r) : pm_rel pG sp (d + 2) mi_Wires_homeOf [.ref a, .int p0] S (some (.int r.1), r.2) := by
  have hg := g_Wires_homeOf h
  unfold F_Wires_homeOf at h
  rw [if_pos hg] at h
  refine pE_rel (d := d + 1) ?_
  show pmE pG _ mi_Wires_homeOf 0 [some (.ref a), some (.int p0)] [] S _
  refine pE_jump 1 (pc' := 1) (ls' := [some (.ref a), some (.int p0)]) (st' := [.ref a]) (fun _ => rfl) ?_
  obtain ⟨oq1, hq1, h⟩ := obind h
  cases oq1 with
  | none => cases h
  | some q1 =>
    try dsimp only at h
    refine pE_gfS rfl rfl hq1 ?_
    obtain ⟨oq2, hq2, h⟩ := obind h
    cases oq2 with
    | none => cases h
    | some q2 =>
      try dsimp only at h
      refine pE_gfS rfl rfl hq2 ?_
      refine pE_jump 1 (pc' := 8) (ls' := [some (.ref a), some (.int p0)]) (st' := [.int p0, .ref q2]) (fun _ => rfl) ?_
      obtain ⟨⟨v4, S3⟩, hv4, h⟩ := obind h
      try dsimp only at h
      refine pE_is (Bs := [.ref q2, .int p0]) (st := []) rfl rfl rfl (Nat.le_of_ble_eq_true rfl) (Nat.le_of_ble_eq_true rfl) (f_BP_valueAt sp d N S q2 p0 _ hv4) ?_
      cases h
      exact pE_ret rfl rfl rfl
def F_Tone_feeders_54 (N : Nat)  (x2 : Int64) (S : pm_S) : Option (Int64 × pm_S) :=
    some (x2, S)
set_option maxHeartbeats 4000000 in
set_option maxRecDepth 20000 in
theorem f_Tone_feeders_54 (sp : pm_I → List Value → pm_S → pm_O → Prop) (d N : Nat)  (x2 : Int64) (S : pm_S)  (r : (Int64 × pm_S)) (h : F_Tone_feeders_54 N  x2 S = some r) : pmE pG (pm_rel pG sp (d + 2)) mi_Tone_feeders 54 [none, none, some (.long x2), none, none] [] S (some (.long r.1), r.2) := by
  unfold F_Tone_feeders_54 at h
  refine pE_jump 1 (pc' := 55) (ls' := [none, none, some (.long x2), none, none]) (st' := [.long x2]) (fun _ => rfl) ?_
  cases h
  exact pE_ret rfl rfl rfl
def F_Tone_feeders_48 (N : Nat) (rec5 : Int64 → Int32 → pm_S → Option (Int64 × pm_S)) (x0 : Nat) (x1 : Nat) (x2 : Int64) (x4 : Int32) (S : pm_S) : Option (Int64 × pm_S) :=
    rec5 x2 (x4 + 1) S
set_option maxHeartbeats 4000000 in
set_option maxRecDepth 20000 in
theorem f_Tone_feeders_48 (sp : pm_I → List Value → pm_S → pm_O → Prop) (d N : Nat) (rec5 : Int64 → Int32 → pm_S → Option (Int64 × pm_S)) (x0 : Nat) (x1 : Nat) (x2 : Int64) (x4 : Int32) (S : pm_S) (hrec5 : ∀ (y1 : Int64) (y2 : Int32) (U : pm_S) (r : (Int64 × pm_S)), rec5 y1 y2 U = some r → pmE pG (pm_rel pG sp (d + 2)) mi_Tone_feeders 5 [some (.ref x0), some (.ref x1), some (.long y1), none, some (.int y2)] [] U (some (.long r.1), r.2)) (r : (Int64 × pm_S)) (h : F_Tone_feeders_48 N rec5 x0 x1 x2 x4 S = some r) : pmE pG (pm_rel pG sp (d + 2)) mi_Tone_feeders 48 [some (.ref x0), some (.ref x1), some (.long x2), none, some (.int x4)] [] S (some (.long r.1), r.2) := by
  unfold F_Tone_feeders_48 at h
  refine pE_jump 2 (pc' := 5) (ls' := [some (.ref x0), some (.ref x1), some (.long x2), none, some (.int (x4 + 1))]) (st' := []) (fun _ => rfl) ?_
  exact hrec5 x2 (x4 + 1) S _ h
def B_Tone_feeders_5 (N : Nat)  (rec5 : Int64 → Int32 → pm_S → Option (Int64 × pm_S)) (x0 : Nat) (x1 : Nat) (x2 : Int64) (x4 : Int32) (S : pm_S) : Option (Int64 × pm_S) :=
    (oR S x1 4 1).bind fun oq1 => match oq1 with
    | none => none
    | some q1 =>
    (F_Ledger_size N S q1).bind fun (v3, S2) =>
    if v3 ≤ x4 then
    F_Tone_feeders_54 N x2 S2
    else
    ((F_Plan_boxAt N S2 x1 x4 0).bind fun (v5, S4) =>
    if v5 = 0 then
    ((F_Tone_comesTo N S4 x0 x4 0).bind fun (v7, S6) =>
    (oR S6 x1 4 3).bind fun oq8 => match oq8 with
    | none => none
    | some q8 =>
    (F_BP_valueAt N S6 q8 x4).bind fun (v10, S9) =>
    F_Tone_feeders_48 N rec5 x0 x1 (x2 ||| ((Int32.toInt64 v7) <<< (Int32.toInt64 v10 &&& 63))) x4 S9)
    else
    F_Tone_feeders_48 N rec5 x0 x1 x2 x4 S4)
def F_Tone_feeders_5 (N : Nat)  (x0 : Nat) (x1 : Nat) : Nat → Int64 → Int32 → pm_S → Option (Int64 × pm_S)
  | 0 => fun _ _ _ => none
  | n + 1 => fun x2 x4 S => B_Tone_feeders_5 N  (F_Tone_feeders_5 N  x0 x1 n) x0 x1 x2 x4 S
set_option maxHeartbeats 4000000 in
set_option maxRecDepth 20000 in
theorem f_Tone_feeders_5 (sp : pm_I → List Value → pm_S → pm_O → Prop) (d N : Nat)  (x0 : Nat) (x1 : Nat)  : ∀ (n : Nat) (x2 : Int64) (x4 : Int32) (S : pm_S) (r : (Int64 × pm_S)), F_Tone_feeders_5 N  x0 x1 n x2 x4 S = some r → pmE pG (pm_rel pG sp (d + 2)) mi_Tone_feeders 5 [some (.ref x0), some (.ref x1), some (.long x2), none, some (.int x4)] [] S (some (.long r.1), r.2) := by
  intro n
  induction n with
  | zero =>
    intro x2 x4 S r h
    cases h
  | succ n ih =>
    intro x2 x4 S r h
    replace h : B_Tone_feeders_5 N  (F_Tone_feeders_5 N  x0 x1 n) x0 x1 x2 x4 S = some r := h
    have hrec5 := ih
    generalize F_Tone_feeders_5 N  x0 x1 n = rec5 at h hrec5
    unfold B_Tone_feeders_5 at h
    refine pE_jump 2 (pc' := 8) (ls' := [some (.ref x0), some (.ref x1), some (.long x2), none, some (.int x4)]) (st' := [.ref x1, .int x4]) (fun _ => rfl) ?_
    obtain ⟨oq1, hq1, h⟩ := obind h
    cases oq1 with
    | none => cases h
    | some q1 =>
      try dsimp only at h
      refine pE_gfS rfl rfl hq1 ?_
      obtain ⟨⟨v3, S2⟩, hv3, h⟩ := obind h
      try dsimp only at h
      refine pE_iv (Bs := []) (st := [.int x4]) 1 rfl (Or.inl ⟨rfl, rfl⟩) rfl rfl (Nat.le_of_ble_eq_true rfl) (Nat.le_of_ble_eq_true rfl) (g_Ledger_size hv3) (f_Ledger_size sp (d + 1) N S q1 _ hv3) ?_
      refine pE_br (v3 ≤ x4) rfl rfl (fun c12 => ?_) (fun c12 => ?_)
      · rw [if_pos c12] at h
        refine pE_weak [none, none, some (.long x2), none, none] ⟨rfl, trivial⟩ ?_
        exact f_Tone_feeders_54 sp d N x2 S2 _ h
      · rw [if_neg c12] at h
        refine pE_jump 3 (pc' := 21) (ls' := [some (.ref x0), some (.ref x1), some (.long x2), none, some (.int x4)]) (st' := [.int 0, .int x4, .ref x1]) (fun _ => rfl) ?_
        obtain ⟨⟨v5, S4⟩, hv5, h⟩ := obind h
        try dsimp only at h
        refine pE_iv (Bs := [.int x4, .int 0]) (st := []) 1 rfl (Or.inl ⟨rfl, rfl⟩) rfl rfl (Nat.le_of_ble_eq_true rfl) (Nat.le_of_ble_eq_true rfl) (g_Plan_boxAt hv5) (f_Plan_boxAt sp d N S2 x1 x4 0 _ hv5) ?_
        refine pE_br (¬ v5 = 0) rfl rfl (fun c11 => ?_) (fun c11 => ?_)
        · rw [if_neg c11] at h
          exact f_Tone_feeders_48 sp d N rec5 x0 x1 x2 x4 S4 hrec5 _ h
        · have c11 := Decidable.not_not.mp c11
          rw [if_pos c11] at h
          refine pE_jump 4 (pc' := 32) (ls' := [some (.ref x0), some (.ref x1), some (.long x2), none, some (.int x4)]) (st' := [.int 0, .int x4, .ref x0, .long x2]) (fun _ => rfl) ?_
          obtain ⟨⟨v7, S6⟩, hv7, h⟩ := obind h
          try dsimp only at h
          refine pE_iv (Bs := [.int x4, .int 0]) (st := [.long x2]) 1 rfl (Or.inl ⟨rfl, rfl⟩) rfl rfl (Nat.le_of_ble_eq_true rfl) (Nat.le_of_ble_eq_true rfl) (g_Tone_comesTo hv7) (f_Tone_comesTo sp d N S4 x0 x4 0 _ hv7) ?_
          refine pE_jump 2 (pc' := 37) (ls' := [some (.ref x0), some (.ref x1), some (.long x2), none, some (.int x4)]) (st' := [.ref x1, .long (Int32.toInt64 v7), .long x2]) (fun _ => rfl) ?_
          obtain ⟨oq8, hq8, h⟩ := obind h
          cases oq8 with
          | none => cases h
          | some q8 =>
            try dsimp only at h
            refine pE_gfS rfl rfl hq8 ?_
            refine pE_jump 1 (pc' := 42) (ls' := [some (.ref x0), some (.ref x1), some (.long x2), none, some (.int x4)]) (st' := [.int x4, .ref q8, .long (Int32.toInt64 v7), .long x2]) (fun _ => rfl) ?_
            obtain ⟨⟨v10, S9⟩, hv10, h⟩ := obind h
            try dsimp only at h
            refine pE_is (Bs := [.ref q8, .int x4]) (st := [.long (Int32.toInt64 v7), .long x2]) rfl rfl rfl (Nat.le_of_ble_eq_true rfl) (Nat.le_of_ble_eq_true rfl) (f_BP_valueAt sp (d + 1) N S6 q8 x4 _ hv10) ?_
            refine pE_jump 3 (pc' := 48) (ls' := [some (.ref x0), some (.ref x1), some (.long (x2 ||| ((Int32.toInt64 v7) <<< (Int32.toInt64 v10 &&& 63)))), none, some (.int x4)]) (st' := []) (fun _ => rfl) ?_
            exact f_Tone_feeders_48 sp d N rec5 x0 x1 (x2 ||| ((Int32.toInt64 v7) <<< (Int32.toInt64 v10 &&& 63))) x4 S9 hrec5 _ h
def F_Tone_feeders (N : Nat) (S : pm_S) (a : Nat) (p0 : Nat) : Option (Int64 × pm_S) :=
    if rcv S a 8 = true then
    (F_Tone_feeders_5 N a p0 N 0 0 S)
    else none
theorem g_Tone_feeders {N : Nat} {S : pm_S} {a : Nat} {p0 : Nat} {r : (Int64 × pm_S)} (h : F_Tone_feeders N S a p0 = some r) : rcv S a 8 = true := by
  unfold F_Tone_feeders at h
  by_cases c : rcv S a 8 = true
  · exact c
  · rw [if_neg c] at h; cases h
set_option maxHeartbeats 4000000 in
set_option maxRecDepth 20000 in
theorem f_Tone_feeders (sp : pm_I → List Value → pm_S → pm_O → Prop) (d N : Nat) (S : pm_S) (a : Nat) (p0 : Nat) (r : (Int64 × pm_S)) (h : F_Tone_feeders N S a p0 = some r) : pm_rel pG sp (d + 3) mi_Tone_feeders [.ref a, .ref p0] S (some (.long r.1), r.2) := by
  have hg := g_Tone_feeders h
  unfold F_Tone_feeders at h
  rw [if_pos hg] at h
  refine pE_rel (d := d + 2) ?_
  show pmE pG _ mi_Tone_feeders 0 [some (.ref a), some (.ref p0), none, none, none] [] S _
  refine pE_jump 4 (pc' := 5) (ls' := [some (.ref a), some (.ref p0), some (.long 0), none, some (.int 0)]) (st' := []) (fun _ => rfl) ?_
  exact f_Tone_feeders_5 sp d N a p0 N 0 0 S _ h
def F_Bench_feedersOf (N : Nat) (S : pm_S) (a : Nat) (p0 : Int32) (p1 : Int32) : Option (Int64 × pm_S) :=
    if rcv S a 0 = true then
    ((oR S a 0 1).bind fun oq1 => match oq1 with
    | none => none
    | some q1 =>
    (oR S a 0 0).bind fun oq3 => match oq3 with
    | none => none
    | some q3 =>
    (F_Tone_send N S q1 q3 p1 p0 1).bind fun S4 =>
    (oR S4 a 0 1).bind fun oq5 => match oq5 with
    | none => none
    | some q5 =>
    (oR S4 a 0 0).bind fun oq8 => match oq8 with
    | none => none
    | some q8 =>
    (oR S4 q8 9 9).bind fun oq9 => match oq9 with
    | none => none
    | some q9 =>
    (F_Tone_feeders N S4 q5 q9).bind fun (v11, S10) =>
    some (v11, S10))
    else none
theorem g_Bench_feedersOf {N : Nat} {S : pm_S} {a : Nat} {p0 : Int32} {p1 : Int32} {r : (Int64 × pm_S)} (h : F_Bench_feedersOf N S a p0 p1 = some r) : rcv S a 0 = true := by
  unfold F_Bench_feedersOf at h
  by_cases c : rcv S a 0 = true
  · exact c
  · rw [if_neg c] at h; cases h
set_option maxHeartbeats 4000000 in
set_option maxRecDepth 20000 in
theorem f_Bench_feedersOf (sp : pm_I → List Value → pm_S → pm_O → Prop) (d N : Nat) (S : pm_S) (a : Nat) (p0 : Int32) (p1 : Int32) (r : (Int64 × pm_S)) (h : F_Bench_feedersOf N S a p0 p1 = some r) : pm_rel pG sp (d + 5) mi_Bench_feedersOf [.ref a, .int p0, .int p1] S (some (.long r.1), r.2) := by
  have hg := g_Bench_feedersOf h
  unfold F_Bench_feedersOf at h
  rw [if_pos hg] at h
  refine pE_rel (d := d + 4) ?_
  show pmE pG _ mi_Bench_feedersOf 0 [some (.ref a), some (.int p0), some (.int p1)] [] S _
  refine pE_jump 1 (pc' := 1) (ls' := [some (.ref a), some (.int p0), some (.int p1)]) (st' := [.ref a]) (fun _ => rfl) ?_
  obtain ⟨oq1, hq1, h⟩ := obind h
  cases oq1 with
  | none => cases h
  | some q1 =>
    try dsimp only at h
    refine pE_gfS rfl rfl hq1 ?_
    refine pE_jump 1 (pc' := 5) (ls' := [some (.ref a), some (.int p0), some (.int p1)]) (st' := [.ref a, .ref q1]) (fun _ => rfl) ?_
    obtain ⟨oq3, hq3, h⟩ := obind h
    cases oq3 with
    | none => cases h
    | some q3 =>
      try dsimp only at h
      refine pE_gfS rfl rfl hq3 ?_
      refine pE_jump 3 (pc' := 11) (ls' := [some (.ref a), some (.int p0), some (.int p1)]) (st' := [.int 1, .int p0, .int p1, .ref q3, .ref q1]) (fun _ => rfl) ?_
      obtain ⟨S4, hS4, h⟩ := obind h
      refine pE_iv (Bs := [.ref q3, .int p1, .int p0, .int 1]) (st := []) 1 rfl (Or.inl ⟨rfl, rfl⟩) rfl rfl (Nat.le_of_ble_eq_true rfl) (Nat.le_of_ble_eq_true rfl) (g_Tone_send hS4) (f_Tone_send sp d N S q1 q3 p1 p0 1 _ hS4) ?_
      refine pE_jump 1 (pc' := 15) (ls' := [some (.ref a), some (.int p0), some (.int p1)]) (st' := [.ref a]) (fun _ => rfl) ?_
      obtain ⟨oq5, hq5, h⟩ := obind h
      cases oq5 with
      | none => cases h
      | some q5 =>
        try dsimp only at h
        refine pE_gfS rfl rfl hq5 ?_
        refine pE_jump 1 (pc' := 19) (ls' := [some (.ref a), some (.int p0), some (.int p1)]) (st' := [.ref a, .ref q5]) (fun _ => rfl) ?_
        obtain ⟨oq8, hq8, h⟩ := obind h
        cases oq8 with
        | none => cases h
        | some q8 =>
          try dsimp only at h
          refine pE_gfS rfl rfl hq8 ?_
          obtain ⟨oq9, hq9, h⟩ := obind h
          cases oq9 with
          | none => cases h
          | some q9 =>
            try dsimp only at h
            refine pE_gfS rfl rfl hq9 ?_
            obtain ⟨⟨v11, S10⟩, hv11, h⟩ := obind h
            try dsimp only at h
            refine pE_iv (Bs := [.ref q9]) (st := []) 1 rfl (Or.inl ⟨rfl, rfl⟩) rfl rfl (Nat.le_of_ble_eq_true rfl) (Nat.le_of_ble_eq_true rfl) (g_Tone_feeders hv11) (f_Tone_feeders sp (d + 1) N S4 q5 q9 _ hv11) ?_
            cases h
            exact pE_ret rfl rfl rfl
def F_BP_fed_66 (N : Nat)  (t0 : Int64) (S : pm_S) : Option (Int64 × pm_S) :=
    some (t0, S)
set_option maxHeartbeats 4000000 in
set_option maxRecDepth 20000 in
theorem f_BP_fed_66 (sp : pm_I → List Value → pm_S → pm_O → Prop) (d N : Nat)  (t0 : Int64) (S : pm_S)  (r : (Int64 × pm_S)) (h : F_BP_fed_66 N  t0 S = some r) : pmE pG (pm_rel pG sp (d + 5)) mi_BP_fed 66 [none, none, none, none, none, none, none] [.long t0] S (some (.long r.1), r.2) := by
  unfold F_BP_fed_66 at h
  cases h
  exact pE_ret rfl rfl rfl
def F_BP_fed (N : Nat) (S : pm_S) (a : Nat) (p0 : Int32) (p1 : Int32) (p2 : Int32) (p3 : Int32) : Option (Int64 × pm_S) :=
    if rcv S a 10 = true then
    ((F_BP_planWith N S a p0 p1).bind fun (oq2, S1) => match oq2 with
    | none => some ((-1), S1)
    | some q2 =>
    (oR S1 a 10 3).bind fun oq3 => match oq3 with
    | none => none
    | some q3 =>
    (oR S1 q3 0 0).bind fun oq4 => match oq4 with
    | none => none
    | some q4 =>
    (F_Wires_lay N S1 q4 q2 p1).bind fun S5 =>
    (oR S5 a 10 3).bind fun oq6 => match oq6 with
    | none => none
    | some q6 =>
    (oR S5 q6 0 0).bind fun oq7 => match oq7 with
    | none => none
    | some q7 =>
    (F_Wires_homeOf N S5 q7 p3).bind fun (v9, S8) =>
    if v9 = (-1) then
    F_BP_fed_66 N (-1) S8
    else
    ((oR S8 a 10 3).bind fun oq10 => match oq10 with
    | none => none
    | some q10 =>
    (F_Bench_feedersOf N S8 q10 v9 p2).bind fun (v12, S11) =>
    F_BP_fed_66 N v12 S11))
    else none
theorem g_BP_fed {N : Nat} {S : pm_S} {a : Nat} {p0 : Int32} {p1 : Int32} {p2 : Int32} {p3 : Int32} {r : (Int64 × pm_S)} (h : F_BP_fed N S a p0 p1 p2 p3 = some r) : rcv S a 10 = true := by
  unfold F_BP_fed at h
  by_cases c : rcv S a 10 = true
  · exact c
  · rw [if_neg c] at h; cases h
set_option maxHeartbeats 4000000 in
set_option maxRecDepth 20000 in
theorem f_BP_fed (sp : pm_I → List Value → pm_S → pm_O → Prop) (d N : Nat) (S : pm_S) (a : Nat) (p0 : Int32) (p1 : Int32) (p2 : Int32) (p3 : Int32) (r : (Int64 × pm_S)) (h : F_BP_fed N S a p0 p1 p2 p3 = some r) : pm_rel pG sp (d + 6) mi_BP_fed [.ref a, .int p0, .int p1, .int p2, .int p3] S (some (.long r.1), r.2) := by
  have hg := g_BP_fed h
  unfold F_BP_fed at h
  rw [if_pos hg] at h
  refine pE_rel (d := d + 5) ?_
  show pmE pG _ mi_BP_fed 0 [some (.ref a), some (.int p0), some (.int p1), some (.int p2), some (.int p3), none, none] [] S _
  refine pE_jump 3 (pc' := 3) (ls' := [some (.ref a), some (.int p0), some (.int p1), some (.int p2), some (.int p3), none, none]) (st' := [.int p1, .int p0, .ref a]) (fun _ => rfl) ?_
  obtain ⟨⟨oq2, S1⟩, hq2, h⟩ := obind h
  try dsimp only at h
  cases oq2 with
  | none =>
    try dsimp only at h
    refine pE_iv (Bs := [.int p0, .int p1]) (st := []) 1 rfl (Or.inl ⟨rfl, rfl⟩) rfl rfl (Nat.le_of_ble_eq_true rfl) (Nat.le_of_ble_eq_true rfl) (g_BP_planWith hq2) (f_BP_planWith sp (d + 1) N S a p0 p1 _ hq2) ?_
    refine pE_jump 4 (pc' := 16) (ls' := [some (.ref a), some (.int p0), some (.int p1), some (.int p2), some (.int p3), some (.null), none]) (st' := [.long (-1)]) (fun _ => rfl) ?_
    cases h
    exact pE_ret rfl rfl rfl
  | some q2 =>
    try dsimp only at h
    refine pE_iv (Bs := [.int p0, .int p1]) (st := []) 1 rfl (Or.inl ⟨rfl, rfl⟩) rfl rfl (Nat.le_of_ble_eq_true rfl) (Nat.le_of_ble_eq_true rfl) (g_BP_planWith hq2) (f_BP_planWith sp (d + 1) N S a p0 p1 _ hq2) ?_
    refine pE_jump 4 (pc' := 18) (ls' := [some (.ref a), some (.int p0), some (.int p1), some (.int p2), some (.int p3), some (.ref q2), none]) (st' := [.ref a]) (fun _ => rfl) ?_
    obtain ⟨oq3, hq3, h⟩ := obind h
    cases oq3 with
    | none => cases h
    | some q3 =>
      try dsimp only at h
      refine pE_gfS rfl rfl hq3 ?_
      obtain ⟨oq4, hq4, h⟩ := obind h
      cases oq4 with
      | none => cases h
      | some q4 =>
        try dsimp only at h
        refine pE_gfS rfl rfl hq4 ?_
        refine pE_jump 2 (pc' := 27) (ls' := [some (.ref a), some (.int p0), some (.int p1), some (.int p2), some (.int p3), some (.ref q2), none]) (st' := [.int p1, .ref q2, .ref q4]) (fun _ => rfl) ?_
        obtain ⟨S5, hS5, h⟩ := obind h
        refine pE_iv (Bs := [.ref q2, .int p1]) (st := []) 1 rfl (Or.inl ⟨rfl, rfl⟩) rfl rfl (Nat.le_of_ble_eq_true rfl) (Nat.le_of_ble_eq_true rfl) (g_Wires_lay hS5) (f_Wires_lay sp d N S1 q4 q2 p1 _ hS5) ?_
        refine pE_jump 1 (pc' := 31) (ls' := [some (.ref a), some (.int p0), some (.int p1), some (.int p2), some (.int p3), some (.ref q2), none]) (st' := [.ref a]) (fun _ => rfl) ?_
        obtain ⟨oq6, hq6, h⟩ := obind h
        cases oq6 with
        | none => cases h
        | some q6 =>
          try dsimp only at h
          refine pE_gfS rfl rfl hq6 ?_
          obtain ⟨oq7, hq7, h⟩ := obind h
          cases oq7 with
          | none => cases h
          | some q7 =>
            try dsimp only at h
            refine pE_gfS rfl rfl hq7 ?_
            refine pE_jump 1 (pc' := 39) (ls' := [some (.ref a), some (.int p0), some (.int p1), some (.int p2), some (.int p3), some (.ref q2), none]) (st' := [.int p3, .ref q7]) (fun _ => rfl) ?_
            obtain ⟨⟨v9, S8⟩, hv9, h⟩ := obind h
            try dsimp only at h
            refine pE_iv (Bs := [.int p3]) (st := []) 1 rfl (Or.inl ⟨rfl, rfl⟩) rfl rfl (Nat.le_of_ble_eq_true rfl) (Nat.le_of_ble_eq_true rfl) (g_Wires_homeOf hv9) (f_Wires_homeOf sp (d + 3) N S5 q7 p3 _ hv9) ?_
            refine pE_jump 3 (pc' := 47) (ls' := [some (.ref a), some (.int p0), some (.int p1), some (.int p2), some (.int p3), some (.ref q2), some (.int v9)]) (st' := [.int (-1), .int v9]) (fun _ => rfl) ?_
            refine pE_br (¬ v9 = (-1)) rfl rfl (fun c13 => ?_) (fun c13 => ?_)
            · rw [if_neg c13] at h
              refine pE_jump 1 (pc' := 57) (ls' := [some (.ref a), some (.int p0), some (.int p1), some (.int p2), some (.int p3), some (.ref q2), some (.int v9)]) (st' := [.ref a]) (fun _ => rfl) ?_
              obtain ⟨oq10, hq10, h⟩ := obind h
              cases oq10 with
              | none => cases h
              | some q10 =>
                try dsimp only at h
                refine pE_gfS rfl rfl hq10 ?_
                refine pE_jump 2 (pc' := 63) (ls' := [some (.ref a), some (.int p0), some (.int p1), some (.int p2), some (.int p3), some (.ref q2), some (.int v9)]) (st' := [.int p2, .int v9, .ref q10]) (fun _ => rfl) ?_
                obtain ⟨⟨v12, S11⟩, hv12, h⟩ := obind h
                try dsimp only at h
                refine pE_iv (Bs := [.int v9, .int p2]) (st := []) 1 rfl (Or.inl ⟨rfl, rfl⟩) rfl rfl (Nat.le_of_ble_eq_true rfl) (Nat.le_of_ble_eq_true rfl) (g_Bench_feedersOf hv12) (f_Bench_feedersOf sp d N S8 q10 v9 p2 _ hv12) ?_
                refine pE_weak [none, none, none, none, none, none, none] trivial ?_
                exact f_BP_fed_66 sp d N v12 S11 _ h
            · have c13 := Decidable.not_not.mp c13
              rw [if_pos c13] at h
              refine pE_jump 2 (pc' := 66) (ls' := [some (.ref a), some (.int p0), some (.int p1), some (.int p2), some (.int p3), some (.ref q2), some (.int v9)]) (st' := [.long (-1)]) (fun _ => rfl) ?_
              refine pE_weak [none, none, none, none, none, none, none] trivial ?_
              exact f_BP_fed_66 sp d N (-1) S8 _ h
def F_Lng_bitCount (N : Nat) (S : pm_S) (p0 : Int64) : Option (Int32 × pm_S) :=
    some ((Int64.toInt32 ((((((((p0 - (((Int64.toUInt64 p0 >>> ((Int32.toInt64 1).toUInt64 &&& Int64.toUInt64 63)).toInt64) &&& 6148914691236517205)) &&& 3689348814741910323) + (((Int64.toUInt64 (p0 - (((Int64.toUInt64 p0 >>> ((Int32.toInt64 1).toUInt64 &&& Int64.toUInt64 63)).toInt64) &&& 6148914691236517205)) >>> ((Int32.toInt64 2).toUInt64 &&& Int64.toUInt64 63)).toInt64) &&& 3689348814741910323)) + ((Int64.toUInt64 (((p0 - (((Int64.toUInt64 p0 >>> ((Int32.toInt64 1).toUInt64 &&& Int64.toUInt64 63)).toInt64) &&& 6148914691236517205)) &&& 3689348814741910323) + (((Int64.toUInt64 (p0 - (((Int64.toUInt64 p0 >>> ((Int32.toInt64 1).toUInt64 &&& Int64.toUInt64 63)).toInt64) &&& 6148914691236517205)) >>> ((Int32.toInt64 2).toUInt64 &&& Int64.toUInt64 63)).toInt64) &&& 3689348814741910323)) >>> ((Int32.toInt64 4).toUInt64 &&& Int64.toUInt64 63)).toInt64)) &&& 1085102592571150095) + ((Int64.toUInt64 (((((p0 - (((Int64.toUInt64 p0 >>> ((Int32.toInt64 1).toUInt64 &&& Int64.toUInt64 63)).toInt64) &&& 6148914691236517205)) &&& 3689348814741910323) + (((Int64.toUInt64 (p0 - (((Int64.toUInt64 p0 >>> ((Int32.toInt64 1).toUInt64 &&& Int64.toUInt64 63)).toInt64) &&& 6148914691236517205)) >>> ((Int32.toInt64 2).toUInt64 &&& Int64.toUInt64 63)).toInt64) &&& 3689348814741910323)) + ((Int64.toUInt64 (((p0 - (((Int64.toUInt64 p0 >>> ((Int32.toInt64 1).toUInt64 &&& Int64.toUInt64 63)).toInt64) &&& 6148914691236517205)) &&& 3689348814741910323) + (((Int64.toUInt64 (p0 - (((Int64.toUInt64 p0 >>> ((Int32.toInt64 1).toUInt64 &&& Int64.toUInt64 63)).toInt64) &&& 6148914691236517205)) >>> ((Int32.toInt64 2).toUInt64 &&& Int64.toUInt64 63)).toInt64) &&& 3689348814741910323)) >>> ((Int32.toInt64 4).toUInt64 &&& Int64.toUInt64 63)).toInt64)) &&& 1085102592571150095) >>> ((Int32.toInt64 8).toUInt64 &&& Int64.toUInt64 63)).toInt64)) + ((Int64.toUInt64 ((((((p0 - (((Int64.toUInt64 p0 >>> ((Int32.toInt64 1).toUInt64 &&& Int64.toUInt64 63)).toInt64) &&& 6148914691236517205)) &&& 3689348814741910323) + (((Int64.toUInt64 (p0 - (((Int64.toUInt64 p0 >>> ((Int32.toInt64 1).toUInt64 &&& Int64.toUInt64 63)).toInt64) &&& 6148914691236517205)) >>> ((Int32.toInt64 2).toUInt64 &&& Int64.toUInt64 63)).toInt64) &&& 3689348814741910323)) + ((Int64.toUInt64 (((p0 - (((Int64.toUInt64 p0 >>> ((Int32.toInt64 1).toUInt64 &&& Int64.toUInt64 63)).toInt64) &&& 6148914691236517205)) &&& 3689348814741910323) + (((Int64.toUInt64 (p0 - (((Int64.toUInt64 p0 >>> ((Int32.toInt64 1).toUInt64 &&& Int64.toUInt64 63)).toInt64) &&& 6148914691236517205)) >>> ((Int32.toInt64 2).toUInt64 &&& Int64.toUInt64 63)).toInt64) &&& 3689348814741910323)) >>> ((Int32.toInt64 4).toUInt64 &&& Int64.toUInt64 63)).toInt64)) &&& 1085102592571150095) + ((Int64.toUInt64 (((((p0 - (((Int64.toUInt64 p0 >>> ((Int32.toInt64 1).toUInt64 &&& Int64.toUInt64 63)).toInt64) &&& 6148914691236517205)) &&& 3689348814741910323) + (((Int64.toUInt64 (p0 - (((Int64.toUInt64 p0 >>> ((Int32.toInt64 1).toUInt64 &&& Int64.toUInt64 63)).toInt64) &&& 6148914691236517205)) >>> ((Int32.toInt64 2).toUInt64 &&& Int64.toUInt64 63)).toInt64) &&& 3689348814741910323)) + ((Int64.toUInt64 (((p0 - (((Int64.toUInt64 p0 >>> ((Int32.toInt64 1).toUInt64 &&& Int64.toUInt64 63)).toInt64) &&& 6148914691236517205)) &&& 3689348814741910323) + (((Int64.toUInt64 (p0 - (((Int64.toUInt64 p0 >>> ((Int32.toInt64 1).toUInt64 &&& Int64.toUInt64 63)).toInt64) &&& 6148914691236517205)) >>> ((Int32.toInt64 2).toUInt64 &&& Int64.toUInt64 63)).toInt64) &&& 3689348814741910323)) >>> ((Int32.toInt64 4).toUInt64 &&& Int64.toUInt64 63)).toInt64)) &&& 1085102592571150095) >>> ((Int32.toInt64 8).toUInt64 &&& Int64.toUInt64 63)).toInt64)) >>> ((Int32.toInt64 16).toUInt64 &&& Int64.toUInt64 63)).toInt64)) + ((Int64.toUInt64 (((((((p0 - (((Int64.toUInt64 p0 >>> ((Int32.toInt64 1).toUInt64 &&& Int64.toUInt64 63)).toInt64) &&& 6148914691236517205)) &&& 3689348814741910323) + (((Int64.toUInt64 (p0 - (((Int64.toUInt64 p0 >>> ((Int32.toInt64 1).toUInt64 &&& Int64.toUInt64 63)).toInt64) &&& 6148914691236517205)) >>> ((Int32.toInt64 2).toUInt64 &&& Int64.toUInt64 63)).toInt64) &&& 3689348814741910323)) + ((Int64.toUInt64 (((p0 - (((Int64.toUInt64 p0 >>> ((Int32.toInt64 1).toUInt64 &&& Int64.toUInt64 63)).toInt64) &&& 6148914691236517205)) &&& 3689348814741910323) + (((Int64.toUInt64 (p0 - (((Int64.toUInt64 p0 >>> ((Int32.toInt64 1).toUInt64 &&& Int64.toUInt64 63)).toInt64) &&& 6148914691236517205)) >>> ((Int32.toInt64 2).toUInt64 &&& Int64.toUInt64 63)).toInt64) &&& 3689348814741910323)) >>> ((Int32.toInt64 4).toUInt64 &&& Int64.toUInt64 63)).toInt64)) &&& 1085102592571150095) + ((Int64.toUInt64 (((((p0 - (((Int64.toUInt64 p0 >>> ((Int32.toInt64 1).toUInt64 &&& Int64.toUInt64 63)).toInt64) &&& 6148914691236517205)) &&& 3689348814741910323) + (((Int64.toUInt64 (p0 - (((Int64.toUInt64 p0 >>> ((Int32.toInt64 1).toUInt64 &&& Int64.toUInt64 63)).toInt64) &&& 6148914691236517205)) >>> ((Int32.toInt64 2).toUInt64 &&& Int64.toUInt64 63)).toInt64) &&& 3689348814741910323)) + ((Int64.toUInt64 (((p0 - (((Int64.toUInt64 p0 >>> ((Int32.toInt64 1).toUInt64 &&& Int64.toUInt64 63)).toInt64) &&& 6148914691236517205)) &&& 3689348814741910323) + (((Int64.toUInt64 (p0 - (((Int64.toUInt64 p0 >>> ((Int32.toInt64 1).toUInt64 &&& Int64.toUInt64 63)).toInt64) &&& 6148914691236517205)) >>> ((Int32.toInt64 2).toUInt64 &&& Int64.toUInt64 63)).toInt64) &&& 3689348814741910323)) >>> ((Int32.toInt64 4).toUInt64 &&& Int64.toUInt64 63)).toInt64)) &&& 1085102592571150095) >>> ((Int32.toInt64 8).toUInt64 &&& Int64.toUInt64 63)).toInt64)) + ((Int64.toUInt64 ((((((p0 - (((Int64.toUInt64 p0 >>> ((Int32.toInt64 1).toUInt64 &&& Int64.toUInt64 63)).toInt64) &&& 6148914691236517205)) &&& 3689348814741910323) + (((Int64.toUInt64 (p0 - (((Int64.toUInt64 p0 >>> ((Int32.toInt64 1).toUInt64 &&& Int64.toUInt64 63)).toInt64) &&& 6148914691236517205)) >>> ((Int32.toInt64 2).toUInt64 &&& Int64.toUInt64 63)).toInt64) &&& 3689348814741910323)) + ((Int64.toUInt64 (((p0 - (((Int64.toUInt64 p0 >>> ((Int32.toInt64 1).toUInt64 &&& Int64.toUInt64 63)).toInt64) &&& 6148914691236517205)) &&& 3689348814741910323) + (((Int64.toUInt64 (p0 - (((Int64.toUInt64 p0 >>> ((Int32.toInt64 1).toUInt64 &&& Int64.toUInt64 63)).toInt64) &&& 6148914691236517205)) >>> ((Int32.toInt64 2).toUInt64 &&& Int64.toUInt64 63)).toInt64) &&& 3689348814741910323)) >>> ((Int32.toInt64 4).toUInt64 &&& Int64.toUInt64 63)).toInt64)) &&& 1085102592571150095) + ((Int64.toUInt64 (((((p0 - (((Int64.toUInt64 p0 >>> ((Int32.toInt64 1).toUInt64 &&& Int64.toUInt64 63)).toInt64) &&& 6148914691236517205)) &&& 3689348814741910323) + (((Int64.toUInt64 (p0 - (((Int64.toUInt64 p0 >>> ((Int32.toInt64 1).toUInt64 &&& Int64.toUInt64 63)).toInt64) &&& 6148914691236517205)) >>> ((Int32.toInt64 2).toUInt64 &&& Int64.toUInt64 63)).toInt64) &&& 3689348814741910323)) + ((Int64.toUInt64 (((p0 - (((Int64.toUInt64 p0 >>> ((Int32.toInt64 1).toUInt64 &&& Int64.toUInt64 63)).toInt64) &&& 6148914691236517205)) &&& 3689348814741910323) + (((Int64.toUInt64 (p0 - (((Int64.toUInt64 p0 >>> ((Int32.toInt64 1).toUInt64 &&& Int64.toUInt64 63)).toInt64) &&& 6148914691236517205)) >>> ((Int32.toInt64 2).toUInt64 &&& Int64.toUInt64 63)).toInt64) &&& 3689348814741910323)) >>> ((Int32.toInt64 4).toUInt64 &&& Int64.toUInt64 63)).toInt64)) &&& 1085102592571150095) >>> ((Int32.toInt64 8).toUInt64 &&& Int64.toUInt64 63)).toInt64)) >>> ((Int32.toInt64 16).toUInt64 &&& Int64.toUInt64 63)).toInt64)) >>> ((Int32.toInt64 32).toUInt64 &&& Int64.toUInt64 63)).toInt64))) &&& 127, S)
set_option maxHeartbeats 4000000 in
set_option maxRecDepth 20000 in
theorem f_Lng_bitCount (sp : pm_I → List Value → pm_S → pm_O → Prop) (d N : Nat) (S : pm_S) (p0 : Int64) (r : (Int32 × pm_S)) (h : F_Lng_bitCount N S p0 = some r) : pm_rel pG sp (d + 1) mi_Lng_bitCount [.long p0] S (some (.int r.1), r.2) := by
  unfold F_Lng_bitCount at h
  refine pE_rel (d := d + 0) ?_
  show pmE pG _ mi_Lng_bitCount 0 [some (.long p0), none] [] S _
  refine pE_jump 48 (pc' := 60) (ls' := [some (.long ((((((((p0 - (((Int64.toUInt64 p0 >>> ((Int32.toInt64 1).toUInt64 &&& Int64.toUInt64 63)).toInt64) &&& 6148914691236517205)) &&& 3689348814741910323) + (((Int64.toUInt64 (p0 - (((Int64.toUInt64 p0 >>> ((Int32.toInt64 1).toUInt64 &&& Int64.toUInt64 63)).toInt64) &&& 6148914691236517205)) >>> ((Int32.toInt64 2).toUInt64 &&& Int64.toUInt64 63)).toInt64) &&& 3689348814741910323)) + ((Int64.toUInt64 (((p0 - (((Int64.toUInt64 p0 >>> ((Int32.toInt64 1).toUInt64 &&& Int64.toUInt64 63)).toInt64) &&& 6148914691236517205)) &&& 3689348814741910323) + (((Int64.toUInt64 (p0 - (((Int64.toUInt64 p0 >>> ((Int32.toInt64 1).toUInt64 &&& Int64.toUInt64 63)).toInt64) &&& 6148914691236517205)) >>> ((Int32.toInt64 2).toUInt64 &&& Int64.toUInt64 63)).toInt64) &&& 3689348814741910323)) >>> ((Int32.toInt64 4).toUInt64 &&& Int64.toUInt64 63)).toInt64)) &&& 1085102592571150095) + ((Int64.toUInt64 (((((p0 - (((Int64.toUInt64 p0 >>> ((Int32.toInt64 1).toUInt64 &&& Int64.toUInt64 63)).toInt64) &&& 6148914691236517205)) &&& 3689348814741910323) + (((Int64.toUInt64 (p0 - (((Int64.toUInt64 p0 >>> ((Int32.toInt64 1).toUInt64 &&& Int64.toUInt64 63)).toInt64) &&& 6148914691236517205)) >>> ((Int32.toInt64 2).toUInt64 &&& Int64.toUInt64 63)).toInt64) &&& 3689348814741910323)) + ((Int64.toUInt64 (((p0 - (((Int64.toUInt64 p0 >>> ((Int32.toInt64 1).toUInt64 &&& Int64.toUInt64 63)).toInt64) &&& 6148914691236517205)) &&& 3689348814741910323) + (((Int64.toUInt64 (p0 - (((Int64.toUInt64 p0 >>> ((Int32.toInt64 1).toUInt64 &&& Int64.toUInt64 63)).toInt64) &&& 6148914691236517205)) >>> ((Int32.toInt64 2).toUInt64 &&& Int64.toUInt64 63)).toInt64) &&& 3689348814741910323)) >>> ((Int32.toInt64 4).toUInt64 &&& Int64.toUInt64 63)).toInt64)) &&& 1085102592571150095) >>> ((Int32.toInt64 8).toUInt64 &&& Int64.toUInt64 63)).toInt64)) + ((Int64.toUInt64 ((((((p0 - (((Int64.toUInt64 p0 >>> ((Int32.toInt64 1).toUInt64 &&& Int64.toUInt64 63)).toInt64) &&& 6148914691236517205)) &&& 3689348814741910323) + (((Int64.toUInt64 (p0 - (((Int64.toUInt64 p0 >>> ((Int32.toInt64 1).toUInt64 &&& Int64.toUInt64 63)).toInt64) &&& 6148914691236517205)) >>> ((Int32.toInt64 2).toUInt64 &&& Int64.toUInt64 63)).toInt64) &&& 3689348814741910323)) + ((Int64.toUInt64 (((p0 - (((Int64.toUInt64 p0 >>> ((Int32.toInt64 1).toUInt64 &&& Int64.toUInt64 63)).toInt64) &&& 6148914691236517205)) &&& 3689348814741910323) + (((Int64.toUInt64 (p0 - (((Int64.toUInt64 p0 >>> ((Int32.toInt64 1).toUInt64 &&& Int64.toUInt64 63)).toInt64) &&& 6148914691236517205)) >>> ((Int32.toInt64 2).toUInt64 &&& Int64.toUInt64 63)).toInt64) &&& 3689348814741910323)) >>> ((Int32.toInt64 4).toUInt64 &&& Int64.toUInt64 63)).toInt64)) &&& 1085102592571150095) + ((Int64.toUInt64 (((((p0 - (((Int64.toUInt64 p0 >>> ((Int32.toInt64 1).toUInt64 &&& Int64.toUInt64 63)).toInt64) &&& 6148914691236517205)) &&& 3689348814741910323) + (((Int64.toUInt64 (p0 - (((Int64.toUInt64 p0 >>> ((Int32.toInt64 1).toUInt64 &&& Int64.toUInt64 63)).toInt64) &&& 6148914691236517205)) >>> ((Int32.toInt64 2).toUInt64 &&& Int64.toUInt64 63)).toInt64) &&& 3689348814741910323)) + ((Int64.toUInt64 (((p0 - (((Int64.toUInt64 p0 >>> ((Int32.toInt64 1).toUInt64 &&& Int64.toUInt64 63)).toInt64) &&& 6148914691236517205)) &&& 3689348814741910323) + (((Int64.toUInt64 (p0 - (((Int64.toUInt64 p0 >>> ((Int32.toInt64 1).toUInt64 &&& Int64.toUInt64 63)).toInt64) &&& 6148914691236517205)) >>> ((Int32.toInt64 2).toUInt64 &&& Int64.toUInt64 63)).toInt64) &&& 3689348814741910323)) >>> ((Int32.toInt64 4).toUInt64 &&& Int64.toUInt64 63)).toInt64)) &&& 1085102592571150095) >>> ((Int32.toInt64 8).toUInt64 &&& Int64.toUInt64 63)).toInt64)) >>> ((Int32.toInt64 16).toUInt64 &&& Int64.toUInt64 63)).toInt64)) + ((Int64.toUInt64 (((((((p0 - (((Int64.toUInt64 p0 >>> ((Int32.toInt64 1).toUInt64 &&& Int64.toUInt64 63)).toInt64) &&& 6148914691236517205)) &&& 3689348814741910323) + (((Int64.toUInt64 (p0 - (((Int64.toUInt64 p0 >>> ((Int32.toInt64 1).toUInt64 &&& Int64.toUInt64 63)).toInt64) &&& 6148914691236517205)) >>> ((Int32.toInt64 2).toUInt64 &&& Int64.toUInt64 63)).toInt64) &&& 3689348814741910323)) + ((Int64.toUInt64 (((p0 - (((Int64.toUInt64 p0 >>> ((Int32.toInt64 1).toUInt64 &&& Int64.toUInt64 63)).toInt64) &&& 6148914691236517205)) &&& 3689348814741910323) + (((Int64.toUInt64 (p0 - (((Int64.toUInt64 p0 >>> ((Int32.toInt64 1).toUInt64 &&& Int64.toUInt64 63)).toInt64) &&& 6148914691236517205)) >>> ((Int32.toInt64 2).toUInt64 &&& Int64.toUInt64 63)).toInt64) &&& 3689348814741910323)) >>> ((Int32.toInt64 4).toUInt64 &&& Int64.toUInt64 63)).toInt64)) &&& 1085102592571150095) + ((Int64.toUInt64 (((((p0 - (((Int64.toUInt64 p0 >>> ((Int32.toInt64 1).toUInt64 &&& Int64.toUInt64 63)).toInt64) &&& 6148914691236517205)) &&& 3689348814741910323) + (((Int64.toUInt64 (p0 - (((Int64.toUInt64 p0 >>> ((Int32.toInt64 1).toUInt64 &&& Int64.toUInt64 63)).toInt64) &&& 6148914691236517205)) >>> ((Int32.toInt64 2).toUInt64 &&& Int64.toUInt64 63)).toInt64) &&& 3689348814741910323)) + ((Int64.toUInt64 (((p0 - (((Int64.toUInt64 p0 >>> ((Int32.toInt64 1).toUInt64 &&& Int64.toUInt64 63)).toInt64) &&& 6148914691236517205)) &&& 3689348814741910323) + (((Int64.toUInt64 (p0 - (((Int64.toUInt64 p0 >>> ((Int32.toInt64 1).toUInt64 &&& Int64.toUInt64 63)).toInt64) &&& 6148914691236517205)) >>> ((Int32.toInt64 2).toUInt64 &&& Int64.toUInt64 63)).toInt64) &&& 3689348814741910323)) >>> ((Int32.toInt64 4).toUInt64 &&& Int64.toUInt64 63)).toInt64)) &&& 1085102592571150095) >>> ((Int32.toInt64 8).toUInt64 &&& Int64.toUInt64 63)).toInt64)) + ((Int64.toUInt64 ((((((p0 - (((Int64.toUInt64 p0 >>> ((Int32.toInt64 1).toUInt64 &&& Int64.toUInt64 63)).toInt64) &&& 6148914691236517205)) &&& 3689348814741910323) + (((Int64.toUInt64 (p0 - (((Int64.toUInt64 p0 >>> ((Int32.toInt64 1).toUInt64 &&& Int64.toUInt64 63)).toInt64) &&& 6148914691236517205)) >>> ((Int32.toInt64 2).toUInt64 &&& Int64.toUInt64 63)).toInt64) &&& 3689348814741910323)) + ((Int64.toUInt64 (((p0 - (((Int64.toUInt64 p0 >>> ((Int32.toInt64 1).toUInt64 &&& Int64.toUInt64 63)).toInt64) &&& 6148914691236517205)) &&& 3689348814741910323) + (((Int64.toUInt64 (p0 - (((Int64.toUInt64 p0 >>> ((Int32.toInt64 1).toUInt64 &&& Int64.toUInt64 63)).toInt64) &&& 6148914691236517205)) >>> ((Int32.toInt64 2).toUInt64 &&& Int64.toUInt64 63)).toInt64) &&& 3689348814741910323)) >>> ((Int32.toInt64 4).toUInt64 &&& Int64.toUInt64 63)).toInt64)) &&& 1085102592571150095) + ((Int64.toUInt64 (((((p0 - (((Int64.toUInt64 p0 >>> ((Int32.toInt64 1).toUInt64 &&& Int64.toUInt64 63)).toInt64) &&& 6148914691236517205)) &&& 3689348814741910323) + (((Int64.toUInt64 (p0 - (((Int64.toUInt64 p0 >>> ((Int32.toInt64 1).toUInt64 &&& Int64.toUInt64 63)).toInt64) &&& 6148914691236517205)) >>> ((Int32.toInt64 2).toUInt64 &&& Int64.toUInt64 63)).toInt64) &&& 3689348814741910323)) + ((Int64.toUInt64 (((p0 - (((Int64.toUInt64 p0 >>> ((Int32.toInt64 1).toUInt64 &&& Int64.toUInt64 63)).toInt64) &&& 6148914691236517205)) &&& 3689348814741910323) + (((Int64.toUInt64 (p0 - (((Int64.toUInt64 p0 >>> ((Int32.toInt64 1).toUInt64 &&& Int64.toUInt64 63)).toInt64) &&& 6148914691236517205)) >>> ((Int32.toInt64 2).toUInt64 &&& Int64.toUInt64 63)).toInt64) &&& 3689348814741910323)) >>> ((Int32.toInt64 4).toUInt64 &&& Int64.toUInt64 63)).toInt64)) &&& 1085102592571150095) >>> ((Int32.toInt64 8).toUInt64 &&& Int64.toUInt64 63)).toInt64)) >>> ((Int32.toInt64 16).toUInt64 &&& Int64.toUInt64 63)).toInt64)) >>> ((Int32.toInt64 32).toUInt64 &&& Int64.toUInt64 63)).toInt64))), none]) (st' := [.int ((Int64.toInt32 ((((((((p0 - (((Int64.toUInt64 p0 >>> ((Int32.toInt64 1).toUInt64 &&& Int64.toUInt64 63)).toInt64) &&& 6148914691236517205)) &&& 3689348814741910323) + (((Int64.toUInt64 (p0 - (((Int64.toUInt64 p0 >>> ((Int32.toInt64 1).toUInt64 &&& Int64.toUInt64 63)).toInt64) &&& 6148914691236517205)) >>> ((Int32.toInt64 2).toUInt64 &&& Int64.toUInt64 63)).toInt64) &&& 3689348814741910323)) + ((Int64.toUInt64 (((p0 - (((Int64.toUInt64 p0 >>> ((Int32.toInt64 1).toUInt64 &&& Int64.toUInt64 63)).toInt64) &&& 6148914691236517205)) &&& 3689348814741910323) + (((Int64.toUInt64 (p0 - (((Int64.toUInt64 p0 >>> ((Int32.toInt64 1).toUInt64 &&& Int64.toUInt64 63)).toInt64) &&& 6148914691236517205)) >>> ((Int32.toInt64 2).toUInt64 &&& Int64.toUInt64 63)).toInt64) &&& 3689348814741910323)) >>> ((Int32.toInt64 4).toUInt64 &&& Int64.toUInt64 63)).toInt64)) &&& 1085102592571150095) + ((Int64.toUInt64 (((((p0 - (((Int64.toUInt64 p0 >>> ((Int32.toInt64 1).toUInt64 &&& Int64.toUInt64 63)).toInt64) &&& 6148914691236517205)) &&& 3689348814741910323) + (((Int64.toUInt64 (p0 - (((Int64.toUInt64 p0 >>> ((Int32.toInt64 1).toUInt64 &&& Int64.toUInt64 63)).toInt64) &&& 6148914691236517205)) >>> ((Int32.toInt64 2).toUInt64 &&& Int64.toUInt64 63)).toInt64) &&& 3689348814741910323)) + ((Int64.toUInt64 (((p0 - (((Int64.toUInt64 p0 >>> ((Int32.toInt64 1).toUInt64 &&& Int64.toUInt64 63)).toInt64) &&& 6148914691236517205)) &&& 3689348814741910323) + (((Int64.toUInt64 (p0 - (((Int64.toUInt64 p0 >>> ((Int32.toInt64 1).toUInt64 &&& Int64.toUInt64 63)).toInt64) &&& 6148914691236517205)) >>> ((Int32.toInt64 2).toUInt64 &&& Int64.toUInt64 63)).toInt64) &&& 3689348814741910323)) >>> ((Int32.toInt64 4).toUInt64 &&& Int64.toUInt64 63)).toInt64)) &&& 1085102592571150095) >>> ((Int32.toInt64 8).toUInt64 &&& Int64.toUInt64 63)).toInt64)) + ((Int64.toUInt64 ((((((p0 - (((Int64.toUInt64 p0 >>> ((Int32.toInt64 1).toUInt64 &&& Int64.toUInt64 63)).toInt64) &&& 6148914691236517205)) &&& 3689348814741910323) + (((Int64.toUInt64 (p0 - (((Int64.toUInt64 p0 >>> ((Int32.toInt64 1).toUInt64 &&& Int64.toUInt64 63)).toInt64) &&& 6148914691236517205)) >>> ((Int32.toInt64 2).toUInt64 &&& Int64.toUInt64 63)).toInt64) &&& 3689348814741910323)) + ((Int64.toUInt64 (((p0 - (((Int64.toUInt64 p0 >>> ((Int32.toInt64 1).toUInt64 &&& Int64.toUInt64 63)).toInt64) &&& 6148914691236517205)) &&& 3689348814741910323) + (((Int64.toUInt64 (p0 - (((Int64.toUInt64 p0 >>> ((Int32.toInt64 1).toUInt64 &&& Int64.toUInt64 63)).toInt64) &&& 6148914691236517205)) >>> ((Int32.toInt64 2).toUInt64 &&& Int64.toUInt64 63)).toInt64) &&& 3689348814741910323)) >>> ((Int32.toInt64 4).toUInt64 &&& Int64.toUInt64 63)).toInt64)) &&& 1085102592571150095) + ((Int64.toUInt64 (((((p0 - (((Int64.toUInt64 p0 >>> ((Int32.toInt64 1).toUInt64 &&& Int64.toUInt64 63)).toInt64) &&& 6148914691236517205)) &&& 3689348814741910323) + (((Int64.toUInt64 (p0 - (((Int64.toUInt64 p0 >>> ((Int32.toInt64 1).toUInt64 &&& Int64.toUInt64 63)).toInt64) &&& 6148914691236517205)) >>> ((Int32.toInt64 2).toUInt64 &&& Int64.toUInt64 63)).toInt64) &&& 3689348814741910323)) + ((Int64.toUInt64 (((p0 - (((Int64.toUInt64 p0 >>> ((Int32.toInt64 1).toUInt64 &&& Int64.toUInt64 63)).toInt64) &&& 6148914691236517205)) &&& 3689348814741910323) + (((Int64.toUInt64 (p0 - (((Int64.toUInt64 p0 >>> ((Int32.toInt64 1).toUInt64 &&& Int64.toUInt64 63)).toInt64) &&& 6148914691236517205)) >>> ((Int32.toInt64 2).toUInt64 &&& Int64.toUInt64 63)).toInt64) &&& 3689348814741910323)) >>> ((Int32.toInt64 4).toUInt64 &&& Int64.toUInt64 63)).toInt64)) &&& 1085102592571150095) >>> ((Int32.toInt64 8).toUInt64 &&& Int64.toUInt64 63)).toInt64)) >>> ((Int32.toInt64 16).toUInt64 &&& Int64.toUInt64 63)).toInt64)) + ((Int64.toUInt64 (((((((p0 - (((Int64.toUInt64 p0 >>> ((Int32.toInt64 1).toUInt64 &&& Int64.toUInt64 63)).toInt64) &&& 6148914691236517205)) &&& 3689348814741910323) + (((Int64.toUInt64 (p0 - (((Int64.toUInt64 p0 >>> ((Int32.toInt64 1).toUInt64 &&& Int64.toUInt64 63)).toInt64) &&& 6148914691236517205)) >>> ((Int32.toInt64 2).toUInt64 &&& Int64.toUInt64 63)).toInt64) &&& 3689348814741910323)) + ((Int64.toUInt64 (((p0 - (((Int64.toUInt64 p0 >>> ((Int32.toInt64 1).toUInt64 &&& Int64.toUInt64 63)).toInt64) &&& 6148914691236517205)) &&& 3689348814741910323) + (((Int64.toUInt64 (p0 - (((Int64.toUInt64 p0 >>> ((Int32.toInt64 1).toUInt64 &&& Int64.toUInt64 63)).toInt64) &&& 6148914691236517205)) >>> ((Int32.toInt64 2).toUInt64 &&& Int64.toUInt64 63)).toInt64) &&& 3689348814741910323)) >>> ((Int32.toInt64 4).toUInt64 &&& Int64.toUInt64 63)).toInt64)) &&& 1085102592571150095) + ((Int64.toUInt64 (((((p0 - (((Int64.toUInt64 p0 >>> ((Int32.toInt64 1).toUInt64 &&& Int64.toUInt64 63)).toInt64) &&& 6148914691236517205)) &&& 3689348814741910323) + (((Int64.toUInt64 (p0 - (((Int64.toUInt64 p0 >>> ((Int32.toInt64 1).toUInt64 &&& Int64.toUInt64 63)).toInt64) &&& 6148914691236517205)) >>> ((Int32.toInt64 2).toUInt64 &&& Int64.toUInt64 63)).toInt64) &&& 3689348814741910323)) + ((Int64.toUInt64 (((p0 - (((Int64.toUInt64 p0 >>> ((Int32.toInt64 1).toUInt64 &&& Int64.toUInt64 63)).toInt64) &&& 6148914691236517205)) &&& 3689348814741910323) + (((Int64.toUInt64 (p0 - (((Int64.toUInt64 p0 >>> ((Int32.toInt64 1).toUInt64 &&& Int64.toUInt64 63)).toInt64) &&& 6148914691236517205)) >>> ((Int32.toInt64 2).toUInt64 &&& Int64.toUInt64 63)).toInt64) &&& 3689348814741910323)) >>> ((Int32.toInt64 4).toUInt64 &&& Int64.toUInt64 63)).toInt64)) &&& 1085102592571150095) >>> ((Int32.toInt64 8).toUInt64 &&& Int64.toUInt64 63)).toInt64)) + ((Int64.toUInt64 ((((((p0 - (((Int64.toUInt64 p0 >>> ((Int32.toInt64 1).toUInt64 &&& Int64.toUInt64 63)).toInt64) &&& 6148914691236517205)) &&& 3689348814741910323) + (((Int64.toUInt64 (p0 - (((Int64.toUInt64 p0 >>> ((Int32.toInt64 1).toUInt64 &&& Int64.toUInt64 63)).toInt64) &&& 6148914691236517205)) >>> ((Int32.toInt64 2).toUInt64 &&& Int64.toUInt64 63)).toInt64) &&& 3689348814741910323)) + ((Int64.toUInt64 (((p0 - (((Int64.toUInt64 p0 >>> ((Int32.toInt64 1).toUInt64 &&& Int64.toUInt64 63)).toInt64) &&& 6148914691236517205)) &&& 3689348814741910323) + (((Int64.toUInt64 (p0 - (((Int64.toUInt64 p0 >>> ((Int32.toInt64 1).toUInt64 &&& Int64.toUInt64 63)).toInt64) &&& 6148914691236517205)) >>> ((Int32.toInt64 2).toUInt64 &&& Int64.toUInt64 63)).toInt64) &&& 3689348814741910323)) >>> ((Int32.toInt64 4).toUInt64 &&& Int64.toUInt64 63)).toInt64)) &&& 1085102592571150095) + ((Int64.toUInt64 (((((p0 - (((Int64.toUInt64 p0 >>> ((Int32.toInt64 1).toUInt64 &&& Int64.toUInt64 63)).toInt64) &&& 6148914691236517205)) &&& 3689348814741910323) + (((Int64.toUInt64 (p0 - (((Int64.toUInt64 p0 >>> ((Int32.toInt64 1).toUInt64 &&& Int64.toUInt64 63)).toInt64) &&& 6148914691236517205)) >>> ((Int32.toInt64 2).toUInt64 &&& Int64.toUInt64 63)).toInt64) &&& 3689348814741910323)) + ((Int64.toUInt64 (((p0 - (((Int64.toUInt64 p0 >>> ((Int32.toInt64 1).toUInt64 &&& Int64.toUInt64 63)).toInt64) &&& 6148914691236517205)) &&& 3689348814741910323) + (((Int64.toUInt64 (p0 - (((Int64.toUInt64 p0 >>> ((Int32.toInt64 1).toUInt64 &&& Int64.toUInt64 63)).toInt64) &&& 6148914691236517205)) >>> ((Int32.toInt64 2).toUInt64 &&& Int64.toUInt64 63)).toInt64) &&& 3689348814741910323)) >>> ((Int32.toInt64 4).toUInt64 &&& Int64.toUInt64 63)).toInt64)) &&& 1085102592571150095) >>> ((Int32.toInt64 8).toUInt64 &&& Int64.toUInt64 63)).toInt64)) >>> ((Int32.toInt64 16).toUInt64 &&& Int64.toUInt64 63)).toInt64)) >>> ((Int32.toInt64 32).toUInt64 &&& Int64.toUInt64 63)).toInt64))) &&& 127)]) (fun _ => rfl) ?_
  cases h
  exact pE_ret rfl rfl rfl
