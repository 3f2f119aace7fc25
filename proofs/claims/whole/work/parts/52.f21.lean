def F_M_upTo_58 (N : Nat)  (x4 : Int32) (S : pm_S) : Option (Int32 × pm_S) :=
    some (x4, S)
set_option maxHeartbeats 4000000 in
set_option maxRecDepth 20000 in
theorem f_M_upTo_58 (sp : pm_I → List Value → pm_S → pm_O → Prop) (d N : Nat)  (x4 : Int32) (S : pm_S)  (r : (Int32 × pm_S)) (h : F_M_upTo_58 N  x4 S = some r) : pmE pG (pm_rel pG sp (d + 2)) mi_M_upTo 58 [none, none, none, none, some (.int x4), none, none] [] S (some (.int r.1), r.2) := by
  unfold F_M_upTo_58 at h
  refine pE_jump 1 (pc' := 60) (ls' := [none, none, none, none, some (.int x4), none, none]) (st' := [.int x4]) (fun _ => rfl) ?_
  cases h
  exact pE_ret rfl rfl rfl
def F_M_upTo_27 (N : Nat)   (S : pm_S) : Option (Int32 × pm_S) :=
    some ((-1), S)
set_option maxHeartbeats 4000000 in
set_option maxRecDepth 20000 in
theorem f_M_upTo_27 (sp : pm_I → List Value → pm_S → pm_O → Prop) (d N : Nat)   (S : pm_S)  (r : (Int32 × pm_S)) (h : F_M_upTo_27 N   S = some r) : pmE pG (pm_rel pG sp (d + 2)) mi_M_upTo 27 [none, none, none, none, none, none, none] [] S (some (.int r.1), r.2) := by
  unfold F_M_upTo_27 at h
  refine pE_jump 1 (pc' := 28) (ls' := [none, none, none, none, none, none, none]) (st' := [.int (-1)]) (fun _ => rfl) ?_
  cases h
  exact pE_ret rfl rfl rfl
def B_M_upTo_6 (N : Nat)  (rec6 : Int32 → Int32 → pm_S → Option (Int32 × pm_S)) (x0 : Nat) (x1 : Int32) (x3 : Int32) (x4 : Int32) (x5 : Int32) (S : pm_S) : Option (Int32 × pm_S) :=
    if x5 = x3 then
    F_M_upTo_58 N x4 S
    else
    ((F_M_comesTo N S x0 x1 x5).bind fun (v2, S1) =>
    if v2 = (-1) then
    F_M_upTo_27 N S1
    else
    ((oR S1 x0 11 11).bind fun oq3 => match oq3 with
    | none => none
    | some q3 =>
    (aI [0, 6] S1 q3 ((7 * x1) + v2)).bind fun v4 =>
    (F_M_up N S1 x0 x1 x5).bind fun (v6, S5) =>
    rec6 (x4 + v4) v6 S5))
def F_M_upTo_6 (N : Nat)  (x0 : Nat) (x1 : Int32) (x3 : Int32) : Nat → Int32 → Int32 → pm_S → Option (Int32 × pm_S)
  | 0 => fun _ _ _ => none
  | n + 1 => fun x4 x5 S => B_M_upTo_6 N  (F_M_upTo_6 N  x0 x1 x3 n) x0 x1 x3 x4 x5 S
set_option maxHeartbeats 4000000 in
set_option maxRecDepth 20000 in
theorem f_M_upTo_6 (sp : pm_I → List Value → pm_S → pm_O → Prop) (d N : Nat)  (x0 : Nat) (x1 : Int32) (x3 : Int32)  : ∀ (n : Nat) (x4 : Int32) (x5 : Int32) (S : pm_S) (r : (Int32 × pm_S)), F_M_upTo_6 N  x0 x1 x3 n x4 x5 S = some r → pmE pG (pm_rel pG sp (d + 2)) mi_M_upTo 6 [some (.ref x0), some (.int x1), none, some (.int x3), some (.int x4), some (.int x5), none] [] S (some (.int r.1), r.2) := by
  intro n
  induction n with
  | zero =>
    intro x4 x5 S r h
    cases h
  | succ n ih =>
    intro x4 x5 S r h
    replace h : B_M_upTo_6 N  (F_M_upTo_6 N  x0 x1 x3 n) x0 x1 x3 x4 x5 S = some r := h
    have hrec6 := ih
    generalize F_M_upTo_6 N  x0 x1 x3 n = rec6 at h hrec6
    unfold B_M_upTo_6 at h
    refine pE_jump 2 (pc' := 9) (ls' := [some (.ref x0), some (.int x1), none, some (.int x3), some (.int x4), some (.int x5), none]) (st' := [.int x3, .int x5]) (fun _ => rfl) ?_
    refine pE_br (x5 = x3) rfl rfl (fun c8 => ?_) (fun c8 => ?_)
    · rw [if_pos c8] at h
      refine pE_weak [none, none, none, none, some (.int x4), none, none] ⟨rfl, trivial⟩ ?_
      exact f_M_upTo_58 sp d N x4 S _ h
    · rw [if_neg c8] at h
      refine pE_jump 3 (pc' := 16) (ls' := [some (.ref x0), some (.int x1), none, some (.int x3), some (.int x4), some (.int x5), none]) (st' := [.int x5, .int x1, .ref x0]) (fun _ => rfl) ?_
      obtain ⟨⟨v2, S1⟩, hv2, h⟩ := obind h
      try dsimp only at h
      refine pE_iv (Bs := [.int x1, .int x5]) (st := []) 1 rfl (Or.inl ⟨rfl, rfl⟩) rfl rfl (Nat.le_of_ble_eq_true rfl) (Nat.le_of_ble_eq_true rfl) (g_M_comesTo hv2) (f_M_comesTo sp (d + 1) N S x0 x1 x5 _ hv2) ?_
      refine pE_jump 3 (pc' := 24) (ls' := [some (.ref x0), some (.int x1), none, some (.int x3), some (.int x4), some (.int x5), some (.int v2)]) (st' := [.int (-1), .int v2]) (fun _ => rfl) ?_
      refine pE_br (¬ v2 = (-1)) rfl rfl (fun c7 => ?_) (fun c7 => ?_)
      · rw [if_neg c7] at h
        refine pE_jump 2 (pc' := 32) (ls' := [some (.ref x0), some (.int x1), none, some (.int x3), some (.int x4), some (.int x5), some (.int v2)]) (st' := [.ref x0, .int x4]) (fun _ => rfl) ?_
        obtain ⟨oq3, hq3, h⟩ := obind h
        cases oq3 with
        | none => cases h
        | some q3 =>
          try dsimp only at h
          refine pE_gfS rfl rfl hq3 ?_
          refine pE_jump 5 (pc' := 42) (ls' := [some (.ref x0), some (.int x1), none, some (.int x3), some (.int x4), some (.int x5), some (.int v2)]) (st' := [.int ((7 * x1) + v2), .ref q3, .int x4]) (fun _ => rfl) ?_
          obtain ⟨v4, hv4, h⟩ := obind h
          refine pE_aI rfl rfl hv4 ?_
          refine pE_jump 5 (pc' := 50) (ls' := [some (.ref x0), some (.int x1), none, some (.int x3), some (.int (x4 + v4)), some (.int x5), some (.int v2)]) (st' := [.int x5, .int x1, .ref x0]) (fun _ => rfl) ?_
          obtain ⟨⟨v6, S5⟩, hv6, h⟩ := obind h
          try dsimp only at h
          refine pE_iv (Bs := [.int x1, .int x5]) (st := []) 1 rfl (Or.inl ⟨rfl, rfl⟩) rfl rfl (Nat.le_of_ble_eq_true rfl) (Nat.le_of_ble_eq_true rfl) (g_M_up hv6) (f_M_up sp d N S1 x0 x1 x5 _ hv6) ?_
          refine pE_jump 2 (pc' := 6) (ls' := [some (.ref x0), some (.int x1), none, some (.int x3), some (.int (x4 + v4)), some (.int v6), some (.int v2)]) (st' := []) (fun _ => rfl) ?_
          refine pE_weak [some (.ref x0), some (.int x1), none, some (.int x3), some (.int (x4 + v4)), some (.int v6), none] ⟨rfl, ⟨rfl, ⟨rfl, ⟨rfl, ⟨rfl, trivial⟩⟩⟩⟩⟩ ?_
          exact hrec6 (x4 + v4) v6 S5 _ h
      · have c7 := Decidable.not_not.mp c7
        rw [if_pos c7] at h
        refine pE_weak [none, none, none, none, none, none, none] trivial ?_
        exact f_M_upTo_27 sp d N S1 _ h
def F_M_upTo (N : Nat) (S : pm_S) (a : Nat) (p0 : Int32) (p1 : Int32) (p2 : Int32) : Option (Int32 × pm_S) :=
    if rcv S a 11 = true then
    (F_M_upTo_6 N a p0 p2 N 0 p1 S)
    else none
theorem g_M_upTo {N : Nat} {S : pm_S} {a : Nat} {p0 : Int32} {p1 : Int32} {p2 : Int32} {r : (Int32 × pm_S)} (h : F_M_upTo N S a p0 p1 p2 = some r) : rcv S a 11 = true := by
  unfold F_M_upTo at h
  by_cases c : rcv S a 11 = true
  · exact c
  · rw [if_neg c] at h; cases h
set_option maxHeartbeats 4000000 in
set_option maxRecDepth 20000 in
theorem f_M_upTo (sp : pm_I → List Value → pm_S → pm_O → Prop) (d N : Nat) (S : pm_S) (a : Nat) (p0 : Int32) (p1 : Int32) (p2 : Int32) (r : (Int32 × pm_S)) (h : F_M_upTo N S a p0 p1 p2 = some r) : pm_rel pG sp (d + 3) mi_M_upTo [.ref a, .int p0, .int p1, .int p2] S (some (.int r.1), r.2) := by
  have hg := g_M_upTo h
  unfold F_M_upTo at h
  rw [if_pos hg] at h
  refine pE_rel (d := d + 2) ?_
  show pmE pG _ mi_M_upTo 0 [some (.ref a), some (.int p0), some (.int p1), some (.int p2), none, none, none] [] S _
  refine pE_jump 4 (pc' := 6) (ls' := [some (.ref a), some (.int p0), some (.int p1), some (.int p2), some (.int 0), some (.int p1), none]) (st' := []) (fun _ => rfl) ?_
  refine pE_weak [some (.ref a), some (.int p0), none, some (.int p2), some (.int 0), some (.int p1), none] ⟨rfl, ⟨rfl, ⟨rfl, ⟨rfl, ⟨rfl, trivial⟩⟩⟩⟩⟩ ?_
  exact f_M_upTo_6 sp d N a p0 p2 N 0 p1 S _ h
def F_M_walkOf_49 (N : Nat)   (S : pm_S) : Option (Int32 × pm_S) :=
    some ((-1), S)
set_option maxHeartbeats 4000000 in
set_option maxRecDepth 20000 in
theorem f_M_walkOf_49 (sp : pm_I → List Value → pm_S → pm_O → Prop) (d N : Nat)   (S : pm_S)  (r : (Int32 × pm_S)) (h : F_M_walkOf_49 N   S = some r) : pmE pG (pm_rel pG sp (d + 3)) mi_M_walkOf 49 [none, none, none, none, none, none] [] S (some (.int r.1), r.2) := by
  unfold F_M_walkOf_49 at h
  refine pE_jump 1 (pc' := 50) (ls' := [none, none, none, none, none, none]) (st' := [.int (-1)]) (fun _ => rfl) ?_
  cases h
  exact pE_ret rfl rfl rfl
def F_M_walkOf_25 (N : Nat)  (x0 : Nat) (x1 : Int32) (x2 : Int32) (x4 : Int32) (x5 : Int32) (S : pm_S) : Option (Int32 × pm_S) :=
    (F_M_upTo N S x0 x1 x2 x4).bind fun (v6, S5) =>
    some (x5 + v6, S5)
set_option maxHeartbeats 4000000 in
set_option maxRecDepth 20000 in
theorem f_M_walkOf_25 (sp : pm_I → List Value → pm_S → pm_O → Prop) (d N : Nat)  (x0 : Nat) (x1 : Int32) (x2 : Int32) (x4 : Int32) (x5 : Int32) (S : pm_S)  (r : (Int32 × pm_S)) (h : F_M_walkOf_25 N  x0 x1 x2 x4 x5 S = some r) : pmE pG (pm_rel pG sp (d + 3)) mi_M_walkOf 25 [some (.ref x0), some (.int x1), some (.int x2), none, some (.int x4), some (.int x5)] [] S (some (.int r.1), r.2) := by
  unfold F_M_walkOf_25 at h
  refine pE_jump 5 (pc' := 32) (ls' := [some (.ref x0), some (.int x1), some (.int x2), none, some (.int x4), some (.int x5)]) (st' := [.int x4, .int x2, .int x1, .ref x0, .int x5]) (fun _ => rfl) ?_
  obtain ⟨⟨v6, S5⟩, hv6, h⟩ := obind h
  try dsimp only at h
  refine pE_iv (Bs := [.int x1, .int x2, .int x4]) (st := [.int x5]) 1 rfl (Or.inl ⟨rfl, rfl⟩) rfl rfl (Nat.le_of_ble_eq_true rfl) (Nat.le_of_ble_eq_true rfl) (g_M_upTo hv6) (f_M_upTo sp d N S x0 x1 x2 x4 _ hv6) ?_
  refine pE_jump 1 (pc' := 36) (ls' := [some (.ref x0), some (.int x1), some (.int x2), none, some (.int x4), some (.int x5)]) (st' := [.int (x5 + v6)]) (fun _ => rfl) ?_
  cases h
  exact pE_ret rfl rfl rfl
def B_M_walkOf_3 (N : Nat)  (rec3 : Int32 → pm_S → Option (Int32 × pm_S)) (x0 : Nat) (x1 : Int32) (x2 : Int32) (x3 : Int32) (x4 : Int32) (S : pm_S) : Option (Int32 × pm_S) :=
    if x4 = (-1) then
    F_M_walkOf_49 N S
    else
    ((F_M_upTo N S x0 x1 x3 x4).bind fun (v2, S1) =>
    if v2 = (-1) then
    ((F_M_up N S1 x0 x1 x4).bind fun (v4, S3) =>
    rec3 v4 S3)
    else
    F_M_walkOf_25 N x0 x1 x2 x4 v2 S1)
def F_M_walkOf_3 (N : Nat)  (x0 : Nat) (x1 : Int32) (x2 : Int32) (x3 : Int32) : Nat → Int32 → pm_S → Option (Int32 × pm_S)
  | 0 => fun _ _ => none
  | n + 1 => fun x4 S => B_M_walkOf_3 N  (F_M_walkOf_3 N  x0 x1 x2 x3 n) x0 x1 x2 x3 x4 S
set_option maxHeartbeats 4000000 in
set_option maxRecDepth 20000 in
theorem f_M_walkOf_3 (sp : pm_I → List Value → pm_S → pm_O → Prop) (d N : Nat)  (x0 : Nat) (x1 : Int32) (x2 : Int32) (x3 : Int32)  : ∀ (n : Nat) (x4 : Int32) (S : pm_S) (r : (Int32 × pm_S)), F_M_walkOf_3 N  x0 x1 x2 x3 n x4 S = some r → pmE pG (pm_rel pG sp (d + 3)) mi_M_walkOf 3 [some (.ref x0), some (.int x1), some (.int x2), some (.int x3), some (.int x4), none] [] S (some (.int r.1), r.2) := by
  intro n
  induction n with
  | zero =>
    intro x4 S r h
    cases h
  | succ n ih =>
    intro x4 S r h
    replace h : B_M_walkOf_3 N  (F_M_walkOf_3 N  x0 x1 x2 x3 n) x0 x1 x2 x3 x4 S = some r := h
    have hrec3 := ih
    generalize F_M_walkOf_3 N  x0 x1 x2 x3 n = rec3 at h hrec3
    unfold B_M_walkOf_3 at h
    refine pE_jump 2 (pc' := 6) (ls' := [some (.ref x0), some (.int x1), some (.int x2), some (.int x3), some (.int x4), none]) (st' := [.int (-1), .int x4]) (fun _ => rfl) ?_
    refine pE_br (x4 = (-1)) rfl rfl (fun c8 => ?_) (fun c8 => ?_)
    · rw [if_pos c8] at h
      refine pE_weak [none, none, none, none, none, none] trivial ?_
      exact f_M_walkOf_49 sp d N S _ h
    · rw [if_neg c8] at h
      refine pE_jump 4 (pc' := 14) (ls' := [some (.ref x0), some (.int x1), some (.int x2), some (.int x3), some (.int x4), none]) (st' := [.int x4, .int x3, .int x1, .ref x0]) (fun _ => rfl) ?_
      obtain ⟨⟨v2, S1⟩, hv2, h⟩ := obind h
      try dsimp only at h
      refine pE_iv (Bs := [.int x1, .int x3, .int x4]) (st := []) 1 rfl (Or.inl ⟨rfl, rfl⟩) rfl rfl (Nat.le_of_ble_eq_true rfl) (Nat.le_of_ble_eq_true rfl) (g_M_upTo hv2) (f_M_upTo sp d N S x0 x1 x3 x4 _ hv2) ?_
      refine pE_jump 3 (pc' := 22) (ls' := [some (.ref x0), some (.int x1), some (.int x2), some (.int x3), some (.int x4), some (.int v2)]) (st' := [.int (-1), .int v2]) (fun _ => rfl) ?_
      refine pE_br (v2 = (-1)) rfl rfl (fun c7 => ?_) (fun c7 => ?_)
      · rw [if_pos c7] at h
        refine pE_jump 3 (pc' := 41) (ls' := [some (.ref x0), some (.int x1), some (.int x2), some (.int x3), some (.int x4), some (.int v2)]) (st' := [.int x4, .int x1, .ref x0]) (fun _ => rfl) ?_
        obtain ⟨⟨v4, S3⟩, hv4, h⟩ := obind h
        try dsimp only at h
        refine pE_iv (Bs := [.int x1, .int x4]) (st := []) 1 rfl (Or.inl ⟨rfl, rfl⟩) rfl rfl (Nat.le_of_ble_eq_true rfl) (Nat.le_of_ble_eq_true rfl) (g_M_up hv4) (f_M_up sp (d + 1) N S1 x0 x1 x4 _ hv4) ?_
        refine pE_jump 2 (pc' := 3) (ls' := [some (.ref x0), some (.int x1), some (.int x2), some (.int x3), some (.int v4), some (.int v2)]) (st' := []) (fun _ => rfl) ?_
        refine pE_weak [some (.ref x0), some (.int x1), some (.int x2), some (.int x3), some (.int v4), none] ⟨rfl, ⟨rfl, ⟨rfl, ⟨rfl, ⟨rfl, trivial⟩⟩⟩⟩⟩ ?_
        exact hrec3 v4 S3 _ h
      · rw [if_neg c7] at h
        refine pE_weak [some (.ref x0), some (.int x1), some (.int x2), none, some (.int x4), some (.int v2)] ⟨rfl, ⟨rfl, ⟨rfl, ⟨rfl, ⟨rfl, trivial⟩⟩⟩⟩⟩ ?_
        exact f_M_walkOf_25 sp d N x0 x1 x2 x4 v2 S1 _ h
def F_M_walkOf (N : Nat) (S : pm_S) (a : Nat) (p0 : Int32) (p1 : Int32) (p2 : Int32) : Option (Int32 × pm_S) :=
    if rcv S a 11 = true then
    (F_M_walkOf_3 N a p0 p1 p2 N p1 S)
    else none
theorem g_M_walkOf {N : Nat} {S : pm_S} {a : Nat} {p0 : Int32} {p1 : Int32} {p2 : Int32} {r : (Int32 × pm_S)} (h : F_M_walkOf N S a p0 p1 p2 = some r) : rcv S a 11 = true := by
  unfold F_M_walkOf at h
  by_cases c : rcv S a 11 = true
  · exact c
  · rw [if_neg c] at h; cases h
set_option maxHeartbeats 4000000 in
set_option maxRecDepth 20000 in
theorem f_M_walkOf (sp : pm_I → List Value → pm_S → pm_O → Prop) (d N : Nat) (S : pm_S) (a : Nat) (p0 : Int32) (p1 : Int32) (p2 : Int32) (r : (Int32 × pm_S)) (h : F_M_walkOf N S a p0 p1 p2 = some r) : pm_rel pG sp (d + 4) mi_M_walkOf [.ref a, .int p0, .int p1, .int p2] S (some (.int r.1), r.2) := by
  have hg := g_M_walkOf h
  unfold F_M_walkOf at h
  rw [if_pos hg] at h
  refine pE_rel (d := d + 3) ?_
  show pmE pG _ mi_M_walkOf 0 [some (.ref a), some (.int p0), some (.int p1), some (.int p2), none, none] [] S _
  refine pE_jump 2 (pc' := 3) (ls' := [some (.ref a), some (.int p0), some (.int p1), some (.int p2), some (.int p1), none]) (st' := []) (fun _ => rfl) ?_
  exact f_M_walkOf_3 sp d N a p0 p1 p2 N p1 S _ h
def F_M_walk_56 (N : Nat)  (t0 : Int32) (S : pm_S) : Option (Int32 × pm_S) :=
    some (t0, S)
set_option maxHeartbeats 4000000 in
set_option maxRecDepth 20000 in
theorem f_M_walk_56 (sp : pm_I → List Value → pm_S → pm_O → Prop) (d N : Nat)  (t0 : Int32) (S : pm_S)  (r : (Int32 × pm_S)) (h : F_M_walk_56 N  t0 S = some r) : pmE pG (pm_rel pG sp (d + 4)) mi_M_walk 56 [none, none, none, none] [.int t0] S (some (.int r.1), r.2) := by
  unfold F_M_walk_56 at h
  cases h
  exact pE_ret rfl rfl rfl
def F_M_walk_55 (N : Nat)   (S : pm_S) : Option (Int32 × pm_S) :=
    F_M_walk_56 N (-1) S
set_option maxHeartbeats 4000000 in
set_option maxRecDepth 20000 in
theorem f_M_walk_55 (sp : pm_I → List Value → pm_S → pm_O → Prop) (d N : Nat)   (S : pm_S)  (r : (Int32 × pm_S)) (h : F_M_walk_55 N   S = some r) : pmE pG (pm_rel pG sp (d + 4)) mi_M_walk 55 [none, none, none, none] [] S (some (.int r.1), r.2) := by
  unfold F_M_walk_55 at h
  refine pE_jump 1 (pc' := 56) (ls' := [none, none, none, none]) (st' := [.int (-1)]) (fun _ => rfl) ?_
  exact f_M_walk_56 sp d N (-1) S _ h
def F_M_walk (N : Nat) (S : pm_S) (a : Nat) (p0 : Int32) (p1 : Int32) (p2 : Int32) : Option (Int32 × pm_S) :=
    if rcv S a 11 = true then
    ((wF S a 11 0 .int (.int 0)).bind fun S1 =>
    (F_M_isPlan N S1 a p0).bind fun (v3, S2) =>
    if v3 = 0 then
    F_M_walk_55 N S2
    else
    ((oR S2 a 11 6).bind fun oq4 => match oq4 with
    | none => none
    | some q4 =>
    (aI [0, 6] S2 q4 p0).bind fun v5 =>
    (F_M_isIn N S2 p1 0 (v5 - 1)).bind fun (v7, S6) =>
    if v7 = 0 then
    F_M_walk_55 N S6
    else
    ((oR S6 a 11 6).bind fun oq8 => match oq8 with
    | none => none
    | some q8 =>
    (aI [0, 6] S6 q8 p0).bind fun v9 =>
    (F_M_isIn N S6 p2 0 (v9 - 1)).bind fun (v11, S10) =>
    if v11 = 0 then
    F_M_walk_55 N S10
    else
    ((F_M_walkOf N S10 a p0 p1 p2).bind fun (v13, S12) =>
    F_M_walk_56 N v13 S12))))
    else none
theorem g_M_walk {N : Nat} {S : pm_S} {a : Nat} {p0 : Int32} {p1 : Int32} {p2 : Int32} {r : (Int32 × pm_S)} (h : F_M_walk N S a p0 p1 p2 = some r) : rcv S a 11 = true := by
  unfold F_M_walk at h
  by_cases c : rcv S a 11 = true
  · exact c
  · rw [if_neg c] at h; cases h
set_option maxHeartbeats 4000000 in
set_option maxRecDepth 20000 in
theorem f_M_walk (sp : pm_I → List Value → pm_S → pm_O → Prop) (d N : Nat) (S : pm_S) (a : Nat) (p0 : Int32) (p1 : Int32) (p2 : Int32) (r : (Int32 × pm_S)) (h : F_M_walk N S a p0 p1 p2 = some r) : pm_rel pG sp (d + 5) mi_M_walk [.ref a, .int p0, .int p1, .int p2] S (some (.int r.1), r.2) := by
  have hg := g_M_walk h
  unfold F_M_walk at h
  rw [if_pos hg] at h
  refine pE_rel (d := d + 4) ?_
  show pmE pG _ mi_M_walk 0 [some (.ref a), some (.int p0), some (.int p1), some (.int p2)] [] S _
  refine pE_jump 2 (pc' := 2) (ls' := [some (.ref a), some (.int p0), some (.int p1), some (.int p2)]) (st' := [.int 0, .ref a]) (fun _ => rfl) ?_
  obtain ⟨S1, hS1, h⟩ := obind h
  refine pE_pf rfl rfl rfl hS1 ?_
  refine pE_jump 2 (pc' := 7) (ls' := [some (.ref a), some (.int p0), some (.int p1), some (.int p2)]) (st' := [.int p0, .ref a]) (fun _ => rfl) ?_
  obtain ⟨⟨v3, S2⟩, hv3, h⟩ := obind h
  try dsimp only at h
  refine pE_iv (Bs := [.int p0]) (st := []) 1 rfl (Or.inl ⟨rfl, rfl⟩) rfl rfl (Nat.le_of_ble_eq_true rfl) (Nat.le_of_ble_eq_true rfl) (g_M_isPlan hv3) (f_M_isPlan sp (d + 3) N S1 a p0 _ hv3) ?_
  refine pE_br (v3 = 0) rfl rfl (fun c16 => ?_) (fun c16 => ?_)
  · rw [if_pos c16] at h
    refine pE_weak [none, none, none, none] trivial ?_
    exact f_M_walk_55 sp d N S2 _ h
  · rw [if_neg c16] at h
    refine pE_jump 3 (pc' := 16) (ls' := [some (.ref a), some (.int p0), some (.int p1), some (.int p2)]) (st' := [.ref a, .int 0, .int p1]) (fun _ => rfl) ?_
    obtain ⟨oq4, hq4, h⟩ := obind h
    cases oq4 with
    | none => cases h
    | some q4 =>
      try dsimp only at h
      refine pE_gfS rfl rfl hq4 ?_
      refine pE_jump 1 (pc' := 20) (ls' := [some (.ref a), some (.int p0), some (.int p1), some (.int p2)]) (st' := [.int p0, .ref q4, .int 0, .int p1]) (fun _ => rfl) ?_
      obtain ⟨v5, hv5, h⟩ := obind h
      refine pE_aI rfl rfl hv5 ?_
      refine pE_jump 2 (pc' := 23) (ls' := [some (.ref a), some (.int p0), some (.int p1), some (.int p2)]) (st' := [.int (v5 - 1), .int 0, .int p1]) (fun _ => rfl) ?_
      obtain ⟨⟨v7, S6⟩, hv7, h⟩ := obind h
      try dsimp only at h
      refine pE_is (Bs := [.int p1, .int 0, .int (v5 - 1)]) (st := []) rfl rfl rfl (Nat.le_of_ble_eq_true rfl) (Nat.le_of_ble_eq_true rfl) (f_M_isIn sp (d + 3) N S2 p1 0 (v5 - 1) _ hv7) ?_
      refine pE_br (v7 = 0) rfl rfl (fun c15 => ?_) (fun c15 => ?_)
      · rw [if_pos c15] at h
        refine pE_weak [none, none, none, none] trivial ?_
        exact f_M_walk_55 sp d N S6 _ h
      · rw [if_neg c15] at h
        refine pE_jump 3 (pc' := 32) (ls' := [some (.ref a), some (.int p0), some (.int p1), some (.int p2)]) (st' := [.ref a, .int 0, .int p2]) (fun _ => rfl) ?_
        obtain ⟨oq8, hq8, h⟩ := obind h
        cases oq8 with
        | none => cases h
        | some q8 =>
          try dsimp only at h
          refine pE_gfS rfl rfl hq8 ?_
          refine pE_jump 1 (pc' := 36) (ls' := [some (.ref a), some (.int p0), some (.int p1), some (.int p2)]) (st' := [.int p0, .ref q8, .int 0, .int p2]) (fun _ => rfl) ?_
          obtain ⟨v9, hv9, h⟩ := obind h
          refine pE_aI rfl rfl hv9 ?_
          refine pE_jump 2 (pc' := 39) (ls' := [some (.ref a), some (.int p0), some (.int p1), some (.int p2)]) (st' := [.int (v9 - 1), .int 0, .int p2]) (fun _ => rfl) ?_
          obtain ⟨⟨v11, S10⟩, hv11, h⟩ := obind h
          try dsimp only at h
          refine pE_is (Bs := [.int p2, .int 0, .int (v9 - 1)]) (st := []) rfl rfl rfl (Nat.le_of_ble_eq_true rfl) (Nat.le_of_ble_eq_true rfl) (f_M_isIn sp (d + 3) N S6 p2 0 (v9 - 1) _ hv11) ?_
          refine pE_br (v11 = 0) rfl rfl (fun c14 => ?_) (fun c14 => ?_)
          · rw [if_pos c14] at h
            refine pE_weak [none, none, none, none] trivial ?_
            exact f_M_walk_55 sp d N S10 _ h
          · rw [if_neg c14] at h
            refine pE_jump 4 (pc' := 49) (ls' := [some (.ref a), some (.int p0), some (.int p1), some (.int p2)]) (st' := [.int p2, .int p1, .int p0, .ref a]) (fun _ => rfl) ?_
            obtain ⟨⟨v13, S12⟩, hv13, h⟩ := obind h
            try dsimp only at h
            refine pE_iv (Bs := [.int p0, .int p1, .int p2]) (st := []) 1 rfl (Or.inl ⟨rfl, rfl⟩) rfl rfl (Nat.le_of_ble_eq_true rfl) (Nat.le_of_ble_eq_true rfl) (g_M_walkOf hv13) (f_M_walkOf sp d N S10 a p0 p1 p2 _ hv13) ?_
            refine pE_jump 1 (pc' := 56) (ls' := [some (.ref a), some (.int p0), some (.int p1), some (.int p2)]) (st' := [.int v13]) (fun _ => rfl) ?_
            refine pE_weak [none, none, none, none] trivial ?_
            exact f_M_walk_56 sp d N v13 S12 _ h
def F_M_boxOf_82 (N : Nat)  (t0 : Int32) (S : pm_S) : Option (Int32 × pm_S) :=
    some (t0, S)
set_option maxHeartbeats 4000000 in
set_option maxRecDepth 20000 in
theorem f_M_boxOf_82 (sp : pm_I → List Value → pm_S → pm_O → Prop) (d N : Nat)  (t0 : Int32) (S : pm_S)  (r : (Int32 × pm_S)) (h : F_M_boxOf_82 N  t0 S = some r) : pmE pG (pm_rel pG sp (d + 0)) mi_M_boxOf 82 [none, none, none, none, none] [.int t0] S (some (.int r.1), r.2) := by
  unfold F_M_boxOf_82 at h
  cases h
  exact pE_ret rfl rfl rfl
def F_M_boxOf_62 (N : Nat)  (x0 : Nat) (x4 : Int32) (t0 : Int32) (S : pm_S) : Option (Int32 × pm_S) :=
    if t0 = 0 then
    ((oR S x0 11 8).bind fun oq9 => match oq9 with
    | none => none
    | some q9 =>
    (aI [0, 6] S q9 x4).bind fun v10 =>
    F_M_boxOf_82 N v10 S)
    else
    ((oR S x0 11 9).bind fun oq11 => match oq11 with
    | none => none
    | some q11 =>
    (aI [0, 6] S q11 x4).bind fun v12 =>
    F_M_boxOf_82 N v12 S)
set_option maxHeartbeats 4000000 in
set_option maxRecDepth 20000 in
theorem f_M_boxOf_62 (sp : pm_I → List Value → pm_S → pm_O → Prop) (d N : Nat)  (x0 : Nat) (x4 : Int32) (t0 : Int32) (S : pm_S)  (r : (Int32 × pm_S)) (h : F_M_boxOf_62 N  x0 x4 t0 S = some r) : pmE pG (pm_rel pG sp (d + 0)) mi_M_boxOf 62 [some (.ref x0), none, none, none, some (.int x4)] [.int t0] S (some (.int r.1), r.2) := by
  unfold F_M_boxOf_62 at h
  refine pE_br (¬ t0 = 0) rfl rfl (fun c13 => ?_) (fun c13 => ?_)
  · rw [if_neg c13] at h
    refine pE_jump 1 (pc' := 76) (ls' := [some (.ref x0), none, none, none, some (.int x4)]) (st' := [.ref x0]) (fun _ => rfl) ?_
    obtain ⟨oq11, hq11, h⟩ := obind h
    cases oq11 with
    | none => cases h
    | some q11 =>
      try dsimp only at h
      refine pE_gfS rfl rfl hq11 ?_
      refine pE_jump 1 (pc' := 81) (ls' := [some (.ref x0), none, none, none, some (.int x4)]) (st' := [.int x4, .ref q11]) (fun _ => rfl) ?_
      obtain ⟨v12, hv12, h⟩ := obind h
      refine pE_aI rfl rfl hv12 ?_
      refine pE_weak [none, none, none, none, none] trivial ?_
      exact f_M_boxOf_82 sp d N v12 S _ h
  · have c13 := Decidable.not_not.mp c13
    rw [if_pos c13] at h
    refine pE_jump 1 (pc' := 66) (ls' := [some (.ref x0), none, none, none, some (.int x4)]) (st' := [.ref x0]) (fun _ => rfl) ?_
    obtain ⟨oq9, hq9, h⟩ := obind h
    cases oq9 with
    | none => cases h
    | some q9 =>
      try dsimp only at h
      refine pE_gfS rfl rfl hq9 ?_
      refine pE_jump 1 (pc' := 71) (ls' := [some (.ref x0), none, none, none, some (.int x4)]) (st' := [.int x4, .ref q9]) (fun _ => rfl) ?_
      obtain ⟨v10, hv10, h⟩ := obind h
      refine pE_aI rfl rfl hv10 ?_
      refine pE_jump 1 (pc' := 82) (ls' := [some (.ref x0), none, none, none, some (.int x4)]) (st' := [.int v10]) (fun _ => rfl) ?_
      refine pE_weak [none, none, none, none, none] trivial ?_
      exact f_M_boxOf_82 sp d N v10 S _ h
def F_M_boxOf_35 (N : Nat)  (x0 : Nat) (x3 : Int32) (t0 : Int32) (t1 : Int32) (S : pm_S) : Option (Int32 × pm_S) :=
    (oR S x0 11 38).bind fun oq5 => match oq5 with
    | none => none
    | some q5 =>
    (aI [0, 6] S q5 x3).bind fun v6 =>
    if v6 = 0 then
    ((oR S x0 11 43).bind fun oq7 => match oq7 with
    | none => none
    | some q7 =>
    (aI [0, 6] S q7 x3).bind fun v8 =>
    F_M_boxOf_62 N x0 (t1 + t0) v8 S)
    else
    ((oR S x0 11 41).bind fun oq14 => match oq14 with
    | none => none
    | some q14 =>
    (aI [0, 6] S q14 x3).bind fun v15 =>
    F_M_boxOf_62 N x0 (t1 + t0) v15 S)
set_option maxHeartbeats 4000000 in
set_option maxRecDepth 20000 in
theorem f_M_boxOf_35 (sp : pm_I → List Value → pm_S → pm_O → Prop) (d N : Nat)  (x0 : Nat) (x3 : Int32) (t0 : Int32) (t1 : Int32) (S : pm_S)  (r : (Int32 × pm_S)) (h : F_M_boxOf_35 N  x0 x3 t0 t1 S = some r) : pmE pG (pm_rel pG sp (d + 0)) mi_M_boxOf 35 [some (.ref x0), none, none, some (.int x3), none] [.int t0, .int t1] S (some (.int r.1), r.2) := by
  unfold F_M_boxOf_35 at h
  refine pE_jump 3 (pc' := 39) (ls' := [some (.ref x0), none, none, some (.int x3), some (.int (t1 + t0))]) (st' := [.ref x0]) (fun _ => rfl) ?_
  obtain ⟨oq5, hq5, h⟩ := obind h
  cases oq5 with
  | none => cases h
  | some q5 =>
    try dsimp only at h
    refine pE_gfS rfl rfl hq5 ?_
    refine pE_jump 1 (pc' := 43) (ls' := [some (.ref x0), none, none, some (.int x3), some (.int (t1 + t0))]) (st' := [.int x3, .ref q5]) (fun _ => rfl) ?_
    obtain ⟨v6, hv6, h⟩ := obind h
    refine pE_aI rfl rfl hv6 ?_
    refine pE_br (¬ v6 = 0) rfl rfl (fun c16 => ?_) (fun c16 => ?_)
    · rw [if_neg c16] at h
      refine pE_jump 1 (pc' := 57) (ls' := [some (.ref x0), none, none, some (.int x3), some (.int (t1 + t0))]) (st' := [.ref x0]) (fun _ => rfl) ?_
      obtain ⟨oq14, hq14, h⟩ := obind h
      cases oq14 with
      | none => cases h
      | some q14 =>
        try dsimp only at h
        refine pE_gfS rfl rfl hq14 ?_
        refine pE_jump 1 (pc' := 61) (ls' := [some (.ref x0), none, none, some (.int x3), some (.int (t1 + t0))]) (st' := [.int x3, .ref q14]) (fun _ => rfl) ?_
        obtain ⟨v15, hv15, h⟩ := obind h
        refine pE_aI rfl rfl hv15 ?_
        refine pE_weak [some (.ref x0), none, none, none, some (.int (t1 + t0))] ⟨rfl, ⟨rfl, trivial⟩⟩ ?_
        exact f_M_boxOf_62 sp d N x0 (t1 + t0) v15 S _ h
    · have c16 := Decidable.not_not.mp c16
      rw [if_pos c16] at h
      refine pE_jump 1 (pc' := 48) (ls' := [some (.ref x0), none, none, some (.int x3), some (.int (t1 + t0))]) (st' := [.ref x0]) (fun _ => rfl) ?_
      obtain ⟨oq7, hq7, h⟩ := obind h
      cases oq7 with
      | none => cases h
      | some q7 =>
        try dsimp only at h
        refine pE_gfS rfl rfl hq7 ?_
        refine pE_jump 1 (pc' := 52) (ls' := [some (.ref x0), none, none, some (.int x3), some (.int (t1 + t0))]) (st' := [.int x3, .ref q7]) (fun _ => rfl) ?_
        obtain ⟨v8, hv8, h⟩ := obind h
        refine pE_aI rfl rfl hv8 ?_
        refine pE_jump 1 (pc' := 62) (ls' := [some (.ref x0), none, none, some (.int x3), some (.int (t1 + t0))]) (st' := [.int v8]) (fun _ => rfl) ?_
        refine pE_weak [some (.ref x0), none, none, none, some (.int (t1 + t0))] ⟨rfl, ⟨rfl, trivial⟩⟩ ?_
        exact f_M_boxOf_62 sp d N x0 (t1 + t0) v8 S _ h
def F_M_boxOf (N : Nat) (S : pm_S) (a : Nat) (p0 : Int32) (p1 : Int32) : Option (Int32 × pm_S) :=
    if rcv S a 11 = true then
    ((oR S a 11 38).bind fun oq1 => match oq1 with
    | none => none
    | some q1 =>
    (aI [0, 6] S q1 ((12 * p0) + p1)).bind fun v2 =>
    if v2 = 0 then
    ((oR S a 11 42).bind fun oq3 => match oq3 with
    | none => none
    | some q3 =>
    (aI [0, 6] S q3 ((12 * p0) + p1)).bind fun v4 =>
    F_M_boxOf_35 N a ((12 * p0) + p1) v4 (7 * p0) S)
    else
    ((oR S a 11 39).bind fun oq17 => match oq17 with
    | none => none
    | some q17 =>
    (aI [0, 6] S q17 ((12 * p0) + p1)).bind fun v18 =>
    F_M_boxOf_35 N a ((12 * p0) + p1) v18 (7 * p0) S))
    else none
theorem g_M_boxOf {N : Nat} {S : pm_S} {a : Nat} {p0 : Int32} {p1 : Int32} {r : (Int32 × pm_S)} (h : F_M_boxOf N S a p0 p1 = some r) : rcv S a 11 = true := by
  unfold F_M_boxOf at h
  by_cases c : rcv S a 11 = true
  · exact c
  · rw [if_neg c] at h; cases h
set_option maxHeartbeats 4000000 in
set_option maxRecDepth 20000 in
theorem f_M_boxOf (sp : pm_I → List Value → pm_S → pm_O → Prop) (d N : Nat) (S : pm_S) (a : Nat) (p0 : Int32) (p1 : Int32) (r : (Int32 × pm_S)) (h : F_M_boxOf N S a p0 p1 = some r) : pm_rel pG sp (d + 1) mi_M_boxOf [.ref a, .int p0, .int p1] S (some (.int r.1), r.2) := by
  have hg := g_M_boxOf h
  unfold F_M_boxOf at h
  rw [if_pos hg] at h
  refine pE_rel (d := d + 0) ?_
  show pmE pG _ mi_M_boxOf 0 [some (.ref a), some (.int p0), some (.int p1), none, none] [] S _
  refine pE_jump 10 (pc' := 12) (ls' := [some (.ref a), some (.int p0), some (.int p1), some (.int ((12 * p0) + p1)), none]) (st' := [.ref a, .int (7 * p0)]) (fun _ => rfl) ?_
  obtain ⟨oq1, hq1, h⟩ := obind h
  cases oq1 with
  | none => cases h
  | some q1 =>
    try dsimp only at h
    refine pE_gfS rfl rfl hq1 ?_
    refine pE_jump 1 (pc' := 16) (ls' := [some (.ref a), some (.int p0), some (.int p1), some (.int ((12 * p0) + p1)), none]) (st' := [.int ((12 * p0) + p1), .ref q1, .int (7 * p0)]) (fun _ => rfl) ?_
    obtain ⟨v2, hv2, h⟩ := obind h
    refine pE_aI rfl rfl hv2 ?_
    refine pE_br (¬ v2 = 0) rfl rfl (fun c19 => ?_) (fun c19 => ?_)
    · rw [if_neg c19] at h
      refine pE_jump 1 (pc' := 30) (ls' := [some (.ref a), some (.int p0), some (.int p1), some (.int ((12 * p0) + p1)), none]) (st' := [.ref a, .int (7 * p0)]) (fun _ => rfl) ?_
      obtain ⟨oq17, hq17, h⟩ := obind h
      cases oq17 with
      | none => cases h
      | some q17 =>
        try dsimp only at h
        refine pE_gfS rfl rfl hq17 ?_
        refine pE_jump 1 (pc' := 34) (ls' := [some (.ref a), some (.int p0), some (.int p1), some (.int ((12 * p0) + p1)), none]) (st' := [.int ((12 * p0) + p1), .ref q17, .int (7 * p0)]) (fun _ => rfl) ?_
        obtain ⟨v18, hv18, h⟩ := obind h
        refine pE_aI rfl rfl hv18 ?_
        refine pE_weak [some (.ref a), none, none, some (.int ((12 * p0) + p1)), none] ⟨rfl, ⟨rfl, trivial⟩⟩ ?_
        exact f_M_boxOf_35 sp d N a ((12 * p0) + p1) v18 (7 * p0) S _ h
    · have c19 := Decidable.not_not.mp c19
      rw [if_pos c19] at h
      refine pE_jump 1 (pc' := 21) (ls' := [some (.ref a), some (.int p0), some (.int p1), some (.int ((12 * p0) + p1)), none]) (st' := [.ref a, .int (7 * p0)]) (fun _ => rfl) ?_
      obtain ⟨oq3, hq3, h⟩ := obind h
      cases oq3 with
      | none => cases h
      | some q3 =>
        try dsimp only at h
        refine pE_gfS rfl rfl hq3 ?_
        refine pE_jump 1 (pc' := 25) (ls' := [some (.ref a), some (.int p0), some (.int p1), some (.int ((12 * p0) + p1)), none]) (st' := [.int ((12 * p0) + p1), .ref q3, .int (7 * p0)]) (fun _ => rfl) ?_
        obtain ⟨v4, hv4, h⟩ := obind h
        refine pE_aI rfl rfl hv4 ?_
        refine pE_jump 1 (pc' := 35) (ls' := [some (.ref a), some (.int p0), some (.int p1), some (.int ((12 * p0) + p1)), none]) (st' := [.int v4, .int (7 * p0)]) (fun _ => rfl) ?_
        refine pE_weak [some (.ref a), none, none, some (.int ((12 * p0) + p1)), none] ⟨rfl, ⟨rfl, trivial⟩⟩ ?_
        exact f_M_boxOf_35 sp d N a ((12 * p0) + p1) v4 (7 * p0) S _ h
def F_M_next_34 (N : Nat)   (S : pm_S) : Option (Int32 × pm_S) :=
    some ((-1), S)
set_option maxHeartbeats 4000000 in
set_option maxRecDepth 20000 in
theorem f_M_next_34 (sp : pm_I → List Value → pm_S → pm_O → Prop) (d N : Nat)   (S : pm_S)  (r : (Int32 × pm_S)) (h : F_M_next_34 N   S = some r) : pmE pG (pm_rel pG sp (d + 9)) mi_M_next 34 [none, none, none, none, none, none, none, none, none, none] [] S (some (.int r.1), r.2) := by
  unfold F_M_next_34 at h
  refine pE_jump 1 (pc' := 35) (ls' := [none, none, none, none, none, none, none, none, none, none]) (st' := [.int (-1)]) (fun _ => rfl) ?_
  cases h
  exact pE_ret rfl rfl rfl
def F_M_next_166 (N : Nat)  (x5 : Int32) (S : pm_S) : Option (Int32 × pm_S) :=
    some (x5, S)
set_option maxHeartbeats 4000000 in
set_option maxRecDepth 20000 in
theorem f_M_next_166 (sp : pm_I → List Value → pm_S → pm_O → Prop) (d N : Nat)  (x5 : Int32) (S : pm_S)  (r : (Int32 × pm_S)) (h : F_M_next_166 N  x5 S = some r) : pmE pG (pm_rel pG sp (d + 9)) mi_M_next 166 [none, none, none, none, none, some (.int x5), none, none, none, none] [] S (some (.int r.1), r.2) := by
  unfold F_M_next_166 at h
  refine pE_jump 1 (pc' := 168) (ls' := [none, none, none, none, none, some (.int x5), none, none, none, none]) (st' := [.int x5]) (fun _ => rfl) ?_
  cases h
  exact pE_ret rfl rfl rfl
def F_M_next_160 (N : Nat) (rec53 : Int32 → Int32 → Int32 → Int32 → pm_S → Option (Int32 × pm_S)) (x0 : Nat) (x1 : Int32) (x2 : Int32) (x3 : Int32) (x4 : Int32) (x5 : Int32) (x6 : Int32) (x7 : Int32) (x8 : Int32) (S : pm_S) : Option (Int32 × pm_S) :=
    rec53 x5 x6 x7 (x8 + 1) S
set_option maxHeartbeats 4000000 in
set_option maxRecDepth 20000 in
theorem f_M_next_160 (sp : pm_I → List Value → pm_S → pm_O → Prop) (d N : Nat) (rec53 : Int32 → Int32 → Int32 → Int32 → pm_S → Option (Int32 × pm_S)) (x0 : Nat) (x1 : Int32) (x2 : Int32) (x3 : Int32) (x4 : Int32) (x5 : Int32) (x6 : Int32) (x7 : Int32) (x8 : Int32) (S : pm_S) (hrec53 : ∀ (y1 : Int32) (y2 : Int32) (y3 : Int32) (y4 : Int32) (U : pm_S) (r : (Int32 × pm_S)), rec53 y1 y2 y3 y4 U = some r → pmE pG (pm_rel pG sp (d + 9)) mi_M_next 53 [some (.ref x0), some (.int x1), some (.int x2), some (.int x3), some (.int x4), some (.int y1), some (.int y2), some (.int y3), some (.int y4), none] [] U (some (.int r.1), r.2)) (r : (Int32 × pm_S)) (h : F_M_next_160 N rec53 x0 x1 x2 x3 x4 x5 x6 x7 x8 S = some r) : pmE pG (pm_rel pG sp (d + 9)) mi_M_next 160 [some (.ref x0), some (.int x1), some (.int x2), some (.int x3), some (.int x4), some (.int x5), some (.int x6), some (.int x7), some (.int x8), none] [] S (some (.int r.1), r.2) := by
  unfold F_M_next_160 at h
  refine pE_jump 2 (pc' := 53) (ls' := [some (.ref x0), some (.int x1), some (.int x2), some (.int x3), some (.int x4), some (.int x5), some (.int x6), some (.int x7), some (.int (x8 + 1)), none]) (st' := []) (fun _ => rfl) ?_
  exact hrec53 x5 x6 x7 (x8 + 1) S _ h
def F_M_next_110 (N : Nat)   (S : pm_S) : Option (Int32 × pm_S) :=
    some ((-1), S)
set_option maxHeartbeats 4000000 in
set_option maxRecDepth 20000 in
theorem f_M_next_110 (sp : pm_I → List Value → pm_S → pm_O → Prop) (d N : Nat)   (S : pm_S)  (r : (Int32 × pm_S)) (h : F_M_next_110 N   S = some r) : pmE pG (pm_rel pG sp (d + 9)) mi_M_next 110 [none, none, none, none, none, none, none, none, none, none] [] S (some (.int r.1), r.2) := by
  unfold F_M_next_110 at h
  refine pE_jump 1 (pc' := 111) (ls' := [none, none, none, none, none, none, none, none, none, none]) (st' := [.int (-1)]) (fun _ => rfl) ?_
  cases h
  exact pE_ret rfl rfl rfl
def F_M_next_146 (N : Nat) (rec53 : Int32 → Int32 → Int32 → Int32 → pm_S → Option (Int32 × pm_S)) (x0 : Nat) (x1 : Int32) (x2 : Int32) (x3 : Int32) (x4 : Int32) (x8 : Int32) (x9 : Int32) (S : pm_S) : Option (Int32 × pm_S) :=
    (oI S x0 11 52).bind fun v17 =>
    F_M_next_160 N rec53 x0 x1 x2 x3 x4 x8 v17 x9 x8 S
set_option maxHeartbeats 4000000 in
set_option maxRecDepth 20000 in
theorem f_M_next_146 (sp : pm_I → List Value → pm_S → pm_O → Prop) (d N : Nat) (rec53 : Int32 → Int32 → Int32 → Int32 → pm_S → Option (Int32 × pm_S)) (x0 : Nat) (x1 : Int32) (x2 : Int32) (x3 : Int32) (x4 : Int32) (x8 : Int32) (x9 : Int32) (S : pm_S) (hrec53 : ∀ (y1 : Int32) (y2 : Int32) (y3 : Int32) (y4 : Int32) (U : pm_S) (r : (Int32 × pm_S)), rec53 y1 y2 y3 y4 U = some r → pmE pG (pm_rel pG sp (d + 9)) mi_M_next 53 [some (.ref x0), some (.int x1), some (.int x2), some (.int x3), some (.int x4), some (.int y1), some (.int y2), some (.int y3), some (.int y4), none] [] U (some (.int r.1), r.2)) (r : (Int32 × pm_S)) (h : F_M_next_146 N rec53 x0 x1 x2 x3 x4 x8 x9 S = some r) : pmE pG (pm_rel pG sp (d + 9)) mi_M_next 146 [some (.ref x0), some (.int x1), some (.int x2), some (.int x3), some (.int x4), none, none, none, some (.int x8), some (.int x9)] [] S (some (.int r.1), r.2) := by
  unfold F_M_next_146 at h
  refine pE_jump 3 (pc' := 151) (ls' := [some (.ref x0), some (.int x1), some (.int x2), some (.int x3), some (.int x4), some (.int x8), none, none, some (.int x8), some (.int x9)]) (st' := [.ref x0]) (fun _ => rfl) ?_
  obtain ⟨v17, hv17, h⟩ := obind h
  refine pE_gfI rfl rfl hv17 ?_
  refine pE_jump 3 (pc' := 160) (ls' := [some (.ref x0), some (.int x1), some (.int x2), some (.int x3), some (.int x4), some (.int x8), some (.int v17), some (.int x9), some (.int x8), some (.int x9)]) (st' := []) (fun _ => rfl) ?_
  refine pE_weak [some (.ref x0), some (.int x1), some (.int x2), some (.int x3), some (.int x4), some (.int x8), some (.int v17), some (.int x9), some (.int x8), none] ⟨rfl, ⟨rfl, ⟨rfl, ⟨rfl, ⟨rfl, ⟨rfl, ⟨rfl, ⟨rfl, ⟨rfl, trivial⟩⟩⟩⟩⟩⟩⟩⟩⟩ ?_
  exact f_M_next_160 sp d N rec53 x0 x1 x2 x3 x4 x8 v17 x9 x8 S hrec53 _ h
def B_M_next_53 (N : Nat)  (rec53 : Int32 → Int32 → Int32 → Int32 → pm_S → Option (Int32 × pm_S)) (x0 : Nat) (x1 : Int32) (x2 : Int32) (x3 : Int32) (x4 : Int32) (x5 : Int32) (x6 : Int32) (x7 : Int32) (x8 : Int32) (S : pm_S) : Option (Int32 × pm_S) :=
    (oR S x0 11 37).bind fun oq9 => match oq9 with
    | none => none
    | some q9 =>
    (aI [0, 6] S q9 x1).bind fun v10 =>
    if v10 ≤ x8 then
    F_M_next_166 N x5 S
    else
    ((F_M_boxOf N S x0 x1 x8).bind fun (v12, S11) =>
    (F_M_walkOf N S11 x0 x1 x3 v12).bind fun (v14, S13) =>
    if v14 = (-1) then
    F_M_next_160 N rec53 x0 x1 x2 x3 x4 x5 x6 x7 x8 S13
    else
    (if v14 ≤ x4 then
    ((F_M_layParts N S13 x0 x1 x8 x2).bind fun S15 =>
    (oI S15 x0 11 52).bind fun v16 =>
    if v16 = 0 then
    F_M_next_110 N S15
    else
    (if x5 = (-1) then
    F_M_next_146 N rec53 x0 x1 x2 x3 x4 x8 v14 S15
    else
    ((oI S15 x0 11 52).bind fun v18 =>
    if x6 < v18 then
    F_M_next_160 N rec53 x0 x1 x2 x3 x4 x5 x6 x7 x8 S15
    else
    ((oI S15 x0 11 52).bind fun v19 =>
    if v19 = x6 then
    (if v14 < x7 then
    F_M_next_146 N rec53 x0 x1 x2 x3 x4 x8 v14 S15
    else
    F_M_next_160 N rec53 x0 x1 x2 x3 x4 x5 x6 x7 x8 S15)
    else
    F_M_next_146 N rec53 x0 x1 x2 x3 x4 x8 v14 S15))))
    else
    F_M_next_160 N rec53 x0 x1 x2 x3 x4 x5 x6 x7 x8 S13))
def F_M_next_53 (N : Nat)  (x0 : Nat) (x1 : Int32) (x2 : Int32) (x3 : Int32) (x4 : Int32) : Nat → Int32 → Int32 → Int32 → Int32 → pm_S → Option (Int32 × pm_S)
  | 0 => fun _ _ _ _ _ => none
  | n + 1 => fun x5 x6 x7 x8 S => B_M_next_53 N  (F_M_next_53 N  x0 x1 x2 x3 x4 n) x0 x1 x2 x3 x4 x5 x6 x7 x8 S
set_option maxHeartbeats 4000000 in
set_option maxRecDepth 20000 in
theorem f_M_next_53 (sp : pm_I → List Value → pm_S → pm_O → Prop) (d N : Nat)  (x0 : Nat) (x1 : Int32) (x2 : Int32) (x3 : Int32) (x4 : Int32)  : ∀ (n : Nat) (x5 : Int32) (x6 : Int32) (x7 : Int32) (x8 : Int32) (S : pm_S) (r : (Int32 × pm_S)), F_M_next_53 N  x0 x1 x2 x3 x4 n x5 x6 x7 x8 S = some r → pmE pG (pm_rel pG sp (d + 9)) mi_M_next 53 [some (.ref x0), some (.int x1), some (.int x2), some (.int x3), some (.int x4), some (.int x5), some (.int x6), some (.int x7), some (.int x8), none] [] S (some (.int r.1), r.2) := by
  intro n
  induction n with
  | zero =>
    intro x5 x6 x7 x8 S r h
    cases h
  | succ n ih =>
    intro x5 x6 x7 x8 S r h
    replace h : B_M_next_53 N  (F_M_next_53 N  x0 x1 x2 x3 x4 n) x0 x1 x2 x3 x4 x5 x6 x7 x8 S = some r := h
    have hrec53 := ih
    generalize F_M_next_53 N  x0 x1 x2 x3 x4 n = rec53 at h hrec53
    unfold B_M_next_53 at h
    refine pE_jump 2 (pc' := 56) (ls' := [some (.ref x0), some (.int x1), some (.int x2), some (.int x3), some (.int x4), some (.int x5), some (.int x6), some (.int x7), some (.int x8), none]) (st' := [.ref x0, .int x8]) (fun _ => rfl) ?_
    obtain ⟨oq9, hq9, h⟩ := obind h
    cases oq9 with
    | none => cases h
    | some q9 =>
      try dsimp only at h
      refine pE_gfS rfl rfl hq9 ?_
      refine pE_jump 1 (pc' := 60) (ls' := [some (.ref x0), some (.int x1), some (.int x2), some (.int x3), some (.int x4), some (.int x5), some (.int x6), some (.int x7), some (.int x8), none]) (st' := [.int x1, .ref q9, .int x8]) (fun _ => rfl) ?_
      obtain ⟨v10, hv10, h⟩ := obind h
      refine pE_aI rfl rfl hv10 ?_
      refine pE_br (v10 ≤ x8) rfl rfl (fun c27 => ?_) (fun c27 => ?_)
      · rw [if_pos c27] at h
        refine pE_weak [none, none, none, none, none, some (.int x5), none, none, none, none] ⟨rfl, trivial⟩ ?_
        exact f_M_next_166 sp d N x5 S _ h
      · rw [if_neg c27] at h
        refine pE_jump 6 (pc' := 71) (ls' := [some (.ref x0), some (.int x1), some (.int x2), some (.int x3), some (.int x4), some (.int x5), some (.int x6), some (.int x7), some (.int x8), none]) (st' := [.int x8, .int x1, .ref x0, .int x3, .int x1, .ref x0]) (fun _ => rfl) ?_
        obtain ⟨⟨v12, S11⟩, hv12, h⟩ := obind h
        try dsimp only at h
        refine pE_iv (Bs := [.int x1, .int x8]) (st := [.int x3, .int x1, .ref x0]) 1 rfl (Or.inl ⟨rfl, rfl⟩) rfl rfl (Nat.le_of_ble_eq_true rfl) (Nat.le_of_ble_eq_true rfl) (g_M_boxOf hv12) (f_M_boxOf sp (d + 8) N S x0 x1 x8 _ hv12) ?_
        obtain ⟨⟨v14, S13⟩, hv14, h⟩ := obind h
        try dsimp only at h
        refine pE_iv (Bs := [.int x1, .int x3, .int v12]) (st := []) 1 rfl (Or.inl ⟨rfl, rfl⟩) rfl rfl (Nat.le_of_ble_eq_true rfl) (Nat.le_of_ble_eq_true rfl) (g_M_walkOf hv14) (f_M_walkOf sp (d + 5) N S11 x0 x1 x3 v12 _ hv14) ?_
        refine pE_jump 3 (pc' := 82) (ls' := [some (.ref x0), some (.int x1), some (.int x2), some (.int x3), some (.int x4), some (.int x5), some (.int x6), some (.int x7), some (.int x8), some (.int v14)]) (st' := [.int (-1), .int v14]) (fun _ => rfl) ?_
        refine pE_br (v14 = (-1)) rfl rfl (fun c26 => ?_) (fun c26 => ?_)
        · rw [if_pos c26] at h
          refine pE_weak [some (.ref x0), some (.int x1), some (.int x2), some (.int x3), some (.int x4), some (.int x5), some (.int x6), some (.int x7), some (.int x8), none] ⟨rfl, ⟨rfl, ⟨rfl, ⟨rfl, ⟨rfl, ⟨rfl, ⟨rfl, ⟨rfl, ⟨rfl, trivial⟩⟩⟩⟩⟩⟩⟩⟩⟩ ?_
          exact f_M_next_160 sp d N rec53 x0 x1 x2 x3 x4 x5 x6 x7 x8 S13 hrec53 _ h
        · rw [if_neg c26] at h
          refine pE_jump 2 (pc' := 89) (ls' := [some (.ref x0), some (.int x1), some (.int x2), some (.int x3), some (.int x4), some (.int x5), some (.int x6), some (.int x7), some (.int x8), some (.int v14)]) (st' := [.int x4, .int v14]) (fun _ => rfl) ?_
          refine pE_br (v14 ≤ x4) rfl rfl (fun c25 => ?_) (fun c25 => ?_)
          · rw [if_pos c25] at h
            refine pE_jump 4 (pc' := 100) (ls' := [some (.ref x0), some (.int x1), some (.int x2), some (.int x3), some (.int x4), some (.int x5), some (.int x6), some (.int x7), some (.int x8), some (.int v14)]) (st' := [.int x2, .int x8, .int x1, .ref x0]) (fun _ => rfl) ?_
            obtain ⟨S15, hS15, h⟩ := obind h
            refine pE_iv (Bs := [.int x1, .int x8, .int x2]) (st := []) 1 rfl (Or.inl ⟨rfl, rfl⟩) rfl rfl (Nat.le_of_ble_eq_true rfl) (Nat.le_of_ble_eq_true rfl) (g_M_layParts hS15) (f_M_layParts sp (d + 1) N S13 x0 x1 x8 x2 _ hS15) ?_
            refine pE_jump 1 (pc' := 104) (ls' := [some (.ref x0), some (.int x1), some (.int x2), some (.int x3), some (.int x4), some (.int x5), some (.int x6), some (.int x7), some (.int x8), some (.int v14)]) (st' := [.ref x0]) (fun _ => rfl) ?_
            obtain ⟨v16, hv16, h⟩ := obind h
            refine pE_gfI rfl rfl hv16 ?_
            refine pE_br (¬ v16 = 0) rfl rfl (fun c24 => ?_) (fun c24 => ?_)
            · rw [if_neg c24] at h
              refine pE_jump 2 (pc' := 115) (ls' := [some (.ref x0), some (.int x1), some (.int x2), some (.int x3), some (.int x4), some (.int x5), some (.int x6), some (.int x7), some (.int x8), some (.int v14)]) (st' := [.int (-1), .int x5]) (fun _ => rfl) ?_
              refine pE_br (x5 = (-1)) rfl rfl (fun c23 => ?_) (fun c23 => ?_)
              · rw [if_pos c23] at h
                refine pE_weak [some (.ref x0), some (.int x1), some (.int x2), some (.int x3), some (.int x4), none, none, none, some (.int x8), some (.int v14)] ⟨rfl, ⟨rfl, ⟨rfl, ⟨rfl, ⟨rfl, ⟨rfl, ⟨rfl, trivial⟩⟩⟩⟩⟩⟩⟩ ?_
                exact f_M_next_146 sp d N rec53 x0 x1 x2 x3 x4 x8 v14 S15 hrec53 _ h
              · rw [if_neg c23] at h
                refine pE_jump 1 (pc' := 119) (ls' := [some (.ref x0), some (.int x1), some (.int x2), some (.int x3), some (.int x4), some (.int x5), some (.int x6), some (.int x7), some (.int x8), some (.int v14)]) (st' := [.ref x0]) (fun _ => rfl) ?_
                obtain ⟨v18, hv18, h⟩ := obind h
                refine pE_gfI rfl rfl hv18 ?_
                refine pE_jump 1 (pc' := 124) (ls' := [some (.ref x0), some (.int x1), some (.int x2), some (.int x3), some (.int x4), some (.int x5), some (.int x6), some (.int x7), some (.int x8), some (.int v14)]) (st' := [.int x6, .int v18]) (fun _ => rfl) ?_
                refine pE_br (x6 < v18) rfl rfl (fun c22 => ?_) (fun c22 => ?_)
                · rw [if_pos c22] at h
                  refine pE_weak [some (.ref x0), some (.int x1), some (.int x2), some (.int x3), some (.int x4), some (.int x5), some (.int x6), some (.int x7), some (.int x8), none] ⟨rfl, ⟨rfl, ⟨rfl, ⟨rfl, ⟨rfl, ⟨rfl, ⟨rfl, ⟨rfl, ⟨rfl, trivial⟩⟩⟩⟩⟩⟩⟩⟩⟩ ?_
                  exact f_M_next_160 sp d N rec53 x0 x1 x2 x3 x4 x5 x6 x7 x8 S15 hrec53 _ h
                · rw [if_neg c22] at h
                  refine pE_jump 1 (pc' := 128) (ls' := [some (.ref x0), some (.int x1), some (.int x2), some (.int x3), some (.int x4), some (.int x5), some (.int x6), some (.int x7), some (.int x8), some (.int v14)]) (st' := [.ref x0]) (fun _ => rfl) ?_
                  obtain ⟨v19, hv19, h⟩ := obind h
                  refine pE_gfI rfl rfl hv19 ?_
                  refine pE_jump 1 (pc' := 133) (ls' := [some (.ref x0), some (.int x1), some (.int x2), some (.int x3), some (.int x4), some (.int x5), some (.int x6), some (.int x7), some (.int x8), some (.int v14)]) (st' := [.int x6, .int v19]) (fun _ => rfl) ?_
                  refine pE_br (¬ v19 = x6) rfl rfl (fun c21 => ?_) (fun c21 => ?_)
                  · rw [if_neg c21] at h
                    refine pE_weak [some (.ref x0), some (.int x1), some (.int x2), some (.int x3), some (.int x4), none, none, none, some (.int x8), some (.int v14)] ⟨rfl, ⟨rfl, ⟨rfl, ⟨rfl, ⟨rfl, ⟨rfl, ⟨rfl, trivial⟩⟩⟩⟩⟩⟩⟩ ?_
                    exact f_M_next_146 sp d N rec53 x0 x1 x2 x3 x4 x8 v14 S15 hrec53 _ h
                  · have c21 := Decidable.not_not.mp c21
                    rw [if_pos c21] at h
                    refine pE_jump 2 (pc' := 140) (ls' := [some (.ref x0), some (.int x1), some (.int x2), some (.int x3), some (.int x4), some (.int x5), some (.int x6), some (.int x7), some (.int x8), some (.int v14)]) (st' := [.int x7, .int v14]) (fun _ => rfl) ?_
                    refine pE_br (v14 < x7) rfl rfl (fun c20 => ?_) (fun c20 => ?_)
                    · rw [if_pos c20] at h
                      refine pE_weak [some (.ref x0), some (.int x1), some (.int x2), some (.int x3), some (.int x4), none, none, none, some (.int x8), some (.int v14)] ⟨rfl, ⟨rfl, ⟨rfl, ⟨rfl, ⟨rfl, ⟨rfl, ⟨rfl, trivial⟩⟩⟩⟩⟩⟩⟩ ?_
                      exact f_M_next_146 sp d N rec53 x0 x1 x2 x3 x4 x8 v14 S15 hrec53 _ h
                    · rw [if_neg c20] at h
                      refine pE_jump 1 (pc' := 160) (ls' := [some (.ref x0), some (.int x1), some (.int x2), some (.int x3), some (.int x4), some (.int x5), some (.int x6), some (.int x7), some (.int x8), some (.int v14)]) (st' := []) (fun _ => rfl) ?_
                      refine pE_weak [some (.ref x0), some (.int x1), some (.int x2), some (.int x3), some (.int x4), some (.int x5), some (.int x6), some (.int x7), some (.int x8), none] ⟨rfl, ⟨rfl, ⟨rfl, ⟨rfl, ⟨rfl, ⟨rfl, ⟨rfl, ⟨rfl, ⟨rfl, trivial⟩⟩⟩⟩⟩⟩⟩⟩⟩ ?_
                      exact f_M_next_160 sp d N rec53 x0 x1 x2 x3 x4 x5 x6 x7 x8 S15 hrec53 _ h
            · have c24 := Decidable.not_not.mp c24
              rw [if_pos c24] at h
              refine pE_weak [none, none, none, none, none, none, none, none, none, none] trivial ?_
              exact f_M_next_110 sp d N S15 _ h
          · rw [if_neg c25] at h
            refine pE_jump 1 (pc' := 160) (ls' := [some (.ref x0), some (.int x1), some (.int x2), some (.int x3), some (.int x4), some (.int x5), some (.int x6), some (.int x7), some (.int x8), some (.int v14)]) (st' := []) (fun _ => rfl) ?_
            refine pE_weak [some (.ref x0), some (.int x1), some (.int x2), some (.int x3), some (.int x4), some (.int x5), some (.int x6), some (.int x7), some (.int x8), none] ⟨rfl, ⟨rfl, ⟨rfl, ⟨rfl, ⟨rfl, ⟨rfl, ⟨rfl, ⟨rfl, ⟨rfl, trivial⟩⟩⟩⟩⟩⟩⟩⟩⟩ ?_
            exact f_M_next_160 sp d N rec53 x0 x1 x2 x3 x4 x5 x6 x7 x8 S13 hrec53 _ h
def F_M_next (N : Nat) (S : pm_S) (a : Nat) (p0 : Int32) (p1 : Int32) (p2 : Int32) (p3 : Int32) : Option (Int32 × pm_S) :=
    if rcv S a 11 = true then
    ((wF S a 11 0 .int (.int 0)).bind fun S1 =>
    (F_M_isPlan N S1 a p0).bind fun (v3, S2) =>
    if v3 = 0 then
    F_M_next_34 N S2
    else
    ((oR S2 a 11 6).bind fun oq4 => match oq4 with
    | none => none
    | some q4 =>
    (aI [0, 6] S2 q4 p0).bind fun v5 =>
    (F_M_isIn N S2 p2 0 (v5 - 1)).bind fun (v7, S6) =>
    if v7 = 0 then
    F_M_next_34 N S6
    else
    (if 0 ≤ p3 then
    ((F_M_layFits N S6 a p0).bind fun S8 =>
    F_M_next_53 N a p0 p1 p2 p3 N (-1) 0 0 0 S8)
    else
    F_M_next_34 N S6)))
    else none
theorem g_M_next {N : Nat} {S : pm_S} {a : Nat} {p0 : Int32} {p1 : Int32} {p2 : Int32} {p3 : Int32} {r : (Int32 × pm_S)} (h : F_M_next N S a p0 p1 p2 p3 = some r) : rcv S a 11 = true := by
  unfold F_M_next at h
  by_cases c : rcv S a 11 = true
  · exact c
  · rw [if_neg c] at h; cases h
set_option maxHeartbeats 4000000 in
set_option maxRecDepth 20000 in
theorem f_M_next (sp : pm_I → List Value → pm_S → pm_O → Prop) (d N : Nat) (S : pm_S) (a : Nat) (p0 : Int32) (p1 : Int32) (p2 : Int32) (p3 : Int32) (r : (Int32 × pm_S)) (h : F_M_next N S a p0 p1 p2 p3 = some r) : pm_rel pG sp (d + 10) mi_M_next [.ref a, .int p0, .int p1, .int p2, .int p3] S (some (.int r.1), r.2) := by
  have hg := g_M_next h
  unfold F_M_next at h
  rw [if_pos hg] at h
  refine pE_rel (d := d + 9) ?_
  show pmE pG _ mi_M_next 0 [some (.ref a), some (.int p0), some (.int p1), some (.int p2), some (.int p3), none, none, none, none, none] [] S _
  refine pE_jump 2 (pc' := 2) (ls' := [some (.ref a), some (.int p0), some (.int p1), some (.int p2), some (.int p3), none, none, none, none, none]) (st' := [.int 0, .ref a]) (fun _ => rfl) ?_
  obtain ⟨S1, hS1, h⟩ := obind h
  refine pE_pf rfl rfl rfl hS1 ?_
  refine pE_jump 2 (pc' := 7) (ls' := [some (.ref a), some (.int p0), some (.int p1), some (.int p2), some (.int p3), none, none, none, none, none]) (st' := [.int p0, .ref a]) (fun _ => rfl) ?_
  obtain ⟨⟨v3, S2⟩, hv3, h⟩ := obind h
  try dsimp only at h
  refine pE_iv (Bs := [.int p0]) (st := []) 1 rfl (Or.inl ⟨rfl, rfl⟩) rfl rfl (Nat.le_of_ble_eq_true rfl) (Nat.le_of_ble_eq_true rfl) (g_M_isPlan hv3) (f_M_isPlan sp (d + 8) N S1 a p0 _ hv3) ?_
  refine pE_br (v3 = 0) rfl rfl (fun c30 => ?_) (fun c30 => ?_)
  · rw [if_pos c30] at h
    refine pE_weak [none, none, none, none, none, none, none, none, none, none] trivial ?_
    exact f_M_next_34 sp d N S2 _ h
  · rw [if_neg c30] at h
    refine pE_jump 3 (pc' := 16) (ls' := [some (.ref a), some (.int p0), some (.int p1), some (.int p2), some (.int p3), none, none, none, none, none]) (st' := [.ref a, .int 0, .int p2]) (fun _ => rfl) ?_
    obtain ⟨oq4, hq4, h⟩ := obind h
    cases oq4 with
    | none => cases h
    | some q4 =>
      try dsimp only at h
      refine pE_gfS rfl rfl hq4 ?_
      refine pE_jump 1 (pc' := 20) (ls' := [some (.ref a), some (.int p0), some (.int p1), some (.int p2), some (.int p3), none, none, none, none, none]) (st' := [.int p0, .ref q4, .int 0, .int p2]) (fun _ => rfl) ?_
      obtain ⟨v5, hv5, h⟩ := obind h
      refine pE_aI rfl rfl hv5 ?_
      refine pE_jump 2 (pc' := 23) (ls' := [some (.ref a), some (.int p0), some (.int p1), some (.int p2), some (.int p3), none, none, none, none, none]) (st' := [.int (v5 - 1), .int 0, .int p2]) (fun _ => rfl) ?_
      obtain ⟨⟨v7, S6⟩, hv7, h⟩ := obind h
      try dsimp only at h
      refine pE_is (Bs := [.int p2, .int 0, .int (v5 - 1)]) (st := []) rfl rfl rfl (Nat.le_of_ble_eq_true rfl) (Nat.le_of_ble_eq_true rfl) (f_M_isIn sp (d + 8) N S2 p2 0 (v5 - 1) _ hv7) ?_
      refine pE_br (v7 = 0) rfl rfl (fun c29 => ?_) (fun c29 => ?_)
      · rw [if_pos c29] at h
        refine pE_weak [none, none, none, none, none, none, none, none, none, none] trivial ?_
        exact f_M_next_34 sp d N S6 _ h
      · rw [if_neg c29] at h
        refine pE_jump 1 (pc' := 31) (ls' := [some (.ref a), some (.int p0), some (.int p1), some (.int p2), some (.int p3), none, none, none, none, none]) (st' := [.int p3]) (fun _ => rfl) ?_
        refine pE_br (0 ≤ p3) rfl rfl (fun c28 => ?_) (fun c28 => ?_)
        · rw [if_pos c28] at h
          refine pE_jump 2 (pc' := 38) (ls' := [some (.ref a), some (.int p0), some (.int p1), some (.int p2), some (.int p3), none, none, none, none, none]) (st' := [.int p0, .ref a]) (fun _ => rfl) ?_
          obtain ⟨S8, hS8, h⟩ := obind h
          refine pE_iv (Bs := [.int p0]) (st := []) 1 rfl (Or.inl ⟨rfl, rfl⟩) rfl rfl (Nat.le_of_ble_eq_true rfl) (Nat.le_of_ble_eq_true rfl) (g_M_layFits hS8) (f_M_layFits sp d N S6 a p0 _ hS8) ?_
          refine pE_jump 8 (pc' := 53) (ls' := [some (.ref a), some (.int p0), some (.int p1), some (.int p2), some (.int p3), some (.int (-1)), some (.int 0), some (.int 0), some (.int 0), none]) (st' := []) (fun _ => rfl) ?_
          exact f_M_next_53 sp d N a p0 p1 p2 p3 N (-1) 0 0 0 S8 _ h
        · rw [if_neg c28] at h
          refine pE_weak [none, none, none, none, none, none, none, none, none, none] trivial ?_
          exact f_M_next_34 sp d N S6 _ h
def F_M_distance_30 (N : Nat)   (S : pm_S) : Option (Int32 × pm_S) :=
    some ((-1), S)
set_option maxHeartbeats 4000000 in
set_option maxRecDepth 20000 in
theorem f_M_distance_30 (sp : pm_I → List Value → pm_S → pm_O → Prop) (d N : Nat)   (S : pm_S)  (r : (Int32 × pm_S)) (h : F_M_distance_30 N   S = some r) : pmE pG (pm_rel pG sp (d + 6)) mi_M_distance 30 [none, none, none, none, none, none, none, none, none, none, none, none] [] S (some (.int r.1), r.2) := by
  unfold F_M_distance_30 at h
  refine pE_jump 1 (pc' := 31) (ls' := [none, none, none, none, none, none, none, none, none, none, none, none]) (st' := [.int (-1)]) (fun _ => rfl) ?_
  cases h
  exact pE_ret rfl rfl rfl
def F_M_distance_234 (N : Nat)  (t0 : Int32) (S : pm_S) : Option (Int32 × pm_S) :=
    some (t0, S)
set_option maxHeartbeats 4000000 in
set_option maxRecDepth 20000 in
theorem f_M_distance_234 (sp : pm_I → List Value → pm_S → pm_O → Prop) (d N : Nat)  (t0 : Int32) (S : pm_S)  (r : (Int32 × pm_S)) (h : F_M_distance_234 N  t0 S = some r) : pmE pG (pm_rel pG sp (d + 6)) mi_M_distance 234 [none, none, none, none, none, none, none, none, none, none, none, none] [.int t0] S (some (.int r.1), r.2) := by
  unfold F_M_distance_234 at h
  cases h
  exact pE_ret rfl rfl rfl
def F_M_distance_222 (N : Nat)  (x5 : Int32) (x6 : Int32) (x7 : Int32) (S : pm_S) : Option (Int32 × pm_S) :=
    if x5 = 0 then
    F_M_distance_234 N x6 S
    else
    F_M_distance_234 N x7 S
set_option maxHeartbeats 4000000 in
set_option maxRecDepth 20000 in
theorem f_M_distance_222 (sp : pm_I → List Value → pm_S → pm_O → Prop) (d N : Nat)  (x5 : Int32) (x6 : Int32) (x7 : Int32) (S : pm_S)  (r : (Int32 × pm_S)) (h : F_M_distance_222 N  x5 x6 x7 S = some r) : pmE pG (pm_rel pG sp (d + 6)) mi_M_distance 222 [none, none, none, none, none, some (.int x5), some (.int x6), some (.int x7), none, none, none, none] [] S (some (.int r.1), r.2) := by
  unfold F_M_distance_222 at h
  refine pE_jump 1 (pc' := 224) (ls' := [none, none, none, none, none, some (.int x5), some (.int x6), some (.int x7), none, none, none, none]) (st' := [.int x5]) (fun _ => rfl) ?_
  refine pE_br (¬ x5 = 0) rfl rfl (fun c8 => ?_) (fun c8 => ?_)
  · rw [if_neg c8] at h
    refine pE_jump 1 (pc' := 234) (ls' := [none, none, none, none, none, some (.int x5), some (.int x6), some (.int x7), none, none, none, none]) (st' := [.int x7]) (fun _ => rfl) ?_
    refine pE_weak [none, none, none, none, none, none, none, none, none, none, none, none] trivial ?_
    exact f_M_distance_234 sp d N x7 S _ h
  · have c8 := Decidable.not_not.mp c8
    rw [if_pos c8] at h
    refine pE_jump 2 (pc' := 234) (ls' := [none, none, none, none, none, some (.int x5), some (.int x6), some (.int x7), none, none, none, none]) (st' := [.int x6]) (fun _ => rfl) ?_
    refine pE_weak [none, none, none, none, none, none, none, none, none, none, none, none] trivial ?_
    exact f_M_distance_234 sp d N x6 S _ h
def F_M_distance_216 (N : Nat) (rec41 : Int32 → Int32 → Int32 → pm_S → Option (Int32 × pm_S)) (x0 : Nat) (x1 : Int32) (x2 : Int32) (x3 : Int32) (x4 : Int32) (x5 : Int32) (x6 : Int32) (x7 : Int32) (x8 : Int32) (S : pm_S) : Option (Int32 × pm_S) :=
    rec41 x6 x7 (x8 + 1) S
set_option maxHeartbeats 4000000 in
set_option maxRecDepth 20000 in
theorem f_M_distance_216 (sp : pm_I → List Value → pm_S → pm_O → Prop) (d N : Nat) (rec41 : Int32 → Int32 → Int32 → pm_S → Option (Int32 × pm_S)) (x0 : Nat) (x1 : Int32) (x2 : Int32) (x3 : Int32) (x4 : Int32) (x5 : Int32) (x6 : Int32) (x7 : Int32) (x8 : Int32) (S : pm_S) (hrec41 : ∀ (y1 : Int32) (y2 : Int32) (y3 : Int32) (U : pm_S) (r : (Int32 × pm_S)), rec41 y1 y2 y3 U = some r → pmE pG (pm_rel pG sp (d + 6)) mi_M_distance 41 [some (.ref x0), some (.int x1), some (.int x2), some (.int x3), some (.int x4), some (.int x5), some (.int y1), some (.int y2), some (.int y3), none, none, none] [] U (some (.int r.1), r.2)) (r : (Int32 × pm_S)) (h : F_M_distance_216 N rec41 x0 x1 x2 x3 x4 x5 x6 x7 x8 S = some r) : pmE pG (pm_rel pG sp (d + 6)) mi_M_distance 216 [some (.ref x0), some (.int x1), some (.int x2), some (.int x3), some (.int x4), some (.int x5), some (.int x6), some (.int x7), some (.int x8), none, none, none] [] S (some (.int r.1), r.2) := by
  unfold F_M_distance_216 at h
  refine pE_jump 2 (pc' := 41) (ls' := [some (.ref x0), some (.int x1), some (.int x2), some (.int x3), some (.int x4), some (.int x5), some (.int x6), some (.int x7), some (.int (x8 + 1)), none, none, none]) (st' := []) (fun _ => rfl) ?_
  exact hrec41 x6 x7 (x8 + 1) S _ h
def F_M_distance_210 (N : Nat) (rec41 : Int32 → Int32 → Int32 → pm_S → Option (Int32 × pm_S)) (x0 : Nat) (x1 : Int32) (x2 : Int32) (x3 : Int32) (x4 : Int32) (x5 : Int32) (x8 : Int32) (t0 : Int32) (S : pm_S) : Option (Int32 × pm_S) :=
    F_M_distance_216 N rec41 x0 x1 x2 x3 x4 x5 t0 x8 x8 S
set_option maxHeartbeats 4000000 in
set_option maxRecDepth 20000 in
theorem f_M_distance_210 (sp : pm_I → List Value → pm_S → pm_O → Prop) (d N : Nat) (rec41 : Int32 → Int32 → Int32 → pm_S → Option (Int32 × pm_S)) (x0 : Nat) (x1 : Int32) (x2 : Int32) (x3 : Int32) (x4 : Int32) (x5 : Int32) (x8 : Int32) (t0 : Int32) (S : pm_S) (hrec41 : ∀ (y1 : Int32) (y2 : Int32) (y3 : Int32) (U : pm_S) (r : (Int32 × pm_S)), rec41 y1 y2 y3 U = some r → pmE pG (pm_rel pG sp (d + 6)) mi_M_distance 41 [some (.ref x0), some (.int x1), some (.int x2), some (.int x3), some (.int x4), some (.int x5), some (.int y1), some (.int y2), some (.int y3), none, none, none] [] U (some (.int r.1), r.2)) (r : (Int32 × pm_S)) (h : F_M_distance_210 N rec41 x0 x1 x2 x3 x4 x5 x8 t0 S = some r) : pmE pG (pm_rel pG sp (d + 6)) mi_M_distance 210 [some (.ref x0), some (.int x1), some (.int x2), some (.int x3), some (.int x4), some (.int x5), none, none, some (.int x8), none, none, none] [.int t0] S (some (.int r.1), r.2) := by
  unfold F_M_distance_210 at h
  refine pE_jump 3 (pc' := 216) (ls' := [some (.ref x0), some (.int x1), some (.int x2), some (.int x3), some (.int x4), some (.int x5), some (.int t0), some (.int x8), some (.int x8), none, none, none]) (st' := []) (fun _ => rfl) ?_
  exact f_M_distance_216 sp d N rec41 x0 x1 x2 x3 x4 x5 t0 x8 x8 S hrec41 _ h
def F_M_distance_189 (N : Nat) (rec41 : Int32 → Int32 → Int32 → pm_S → Option (Int32 × pm_S)) (x0 : Nat) (x1 : Int32) (x2 : Int32) (x3 : Int32) (x4 : Int32) (x5 : Int32) (x6 : Int32) (x7 : Int32) (x8 : Int32) (x9 : Int32) (S : pm_S) : Option (Int32 × pm_S) :=
    if x9 = 0 then
    F_M_distance_216 N rec41 x0 x1 x2 x3 x4 x5 x6 x7 x8 S
    else
    (if x6 = (-1) then
    F_M_distance_210 N rec41 x0 x1 x2 x3 x4 x5 x8 x8 S
    else
    F_M_distance_210 N rec41 x0 x1 x2 x3 x4 x5 x8 x6 S)
set_option maxHeartbeats 4000000 in
set_option maxRecDepth 20000 in
theorem f_M_distance_189 (sp : pm_I → List Value → pm_S → pm_O → Prop) (d N : Nat) (rec41 : Int32 → Int32 → Int32 → pm_S → Option (Int32 × pm_S)) (x0 : Nat) (x1 : Int32) (x2 : Int32) (x3 : Int32) (x4 : Int32) (x5 : Int32) (x6 : Int32) (x7 : Int32) (x8 : Int32) (x9 : Int32) (S : pm_S) (hrec41 : ∀ (y1 : Int32) (y2 : Int32) (y3 : Int32) (U : pm_S) (r : (Int32 × pm_S)), rec41 y1 y2 y3 U = some r → pmE pG (pm_rel pG sp (d + 6)) mi_M_distance 41 [some (.ref x0), some (.int x1), some (.int x2), some (.int x3), some (.int x4), some (.int x5), some (.int y1), some (.int y2), some (.int y3), none, none, none] [] U (some (.int r.1), r.2)) (r : (Int32 × pm_S)) (h : F_M_distance_189 N rec41 x0 x1 x2 x3 x4 x5 x6 x7 x8 x9 S = some r) : pmE pG (pm_rel pG sp (d + 6)) mi_M_distance 189 [some (.ref x0), some (.int x1), some (.int x2), some (.int x3), some (.int x4), some (.int x5), some (.int x6), some (.int x7), some (.int x8), some (.int x9), none, none] [] S (some (.int r.1), r.2) := by
  unfold F_M_distance_189 at h
  refine pE_jump 1 (pc' := 191) (ls' := [some (.ref x0), some (.int x1), some (.int x2), some (.int x3), some (.int x4), some (.int x5), some (.int x6), some (.int x7), some (.int x8), some (.int x9), none, none]) (st' := [.int x9]) (fun _ => rfl) ?_
  refine pE_br (¬ x9 = 0) rfl rfl (fun c16 => ?_) (fun c16 => ?_)
  · rw [if_neg c16] at h
    refine pE_jump 2 (pc' := 200) (ls' := [some (.ref x0), some (.int x1), some (.int x2), some (.int x3), some (.int x4), some (.int x5), some (.int x6), some (.int x7), some (.int x8), some (.int x9), none, none]) (st' := [.int (-1), .int x6]) (fun _ => rfl) ?_
    refine pE_br (¬ x6 = (-1)) rfl rfl (fun c15 => ?_) (fun c15 => ?_)
    · rw [if_neg c15] at h
      refine pE_jump 1 (pc' := 210) (ls' := [some (.ref x0), some (.int x1), some (.int x2), some (.int x3), some (.int x4), some (.int x5), some (.int x6), some (.int x7), some (.int x8), some (.int x9), none, none]) (st' := [.int x6]) (fun _ => rfl) ?_
      refine pE_weak [some (.ref x0), some (.int x1), some (.int x2), some (.int x3), some (.int x4), some (.int x5), none, none, some (.int x8), none, none, none] ⟨rfl, ⟨rfl, ⟨rfl, ⟨rfl, ⟨rfl, ⟨rfl, ⟨rfl, trivial⟩⟩⟩⟩⟩⟩⟩ ?_
      exact f_M_distance_210 sp d N rec41 x0 x1 x2 x3 x4 x5 x8 x6 S hrec41 _ h
    · have c15 := Decidable.not_not.mp c15
      rw [if_pos c15] at h
      refine pE_jump 2 (pc' := 210) (ls' := [some (.ref x0), some (.int x1), some (.int x2), some (.int x3), some (.int x4), some (.int x5), some (.int x6), some (.int x7), some (.int x8), some (.int x9), none, none]) (st' := [.int x8]) (fun _ => rfl) ?_
      refine pE_weak [some (.ref x0), some (.int x1), some (.int x2), some (.int x3), some (.int x4), some (.int x5), none, none, some (.int x8), none, none, none] ⟨rfl, ⟨rfl, ⟨rfl, ⟨rfl, ⟨rfl, ⟨rfl, ⟨rfl, trivial⟩⟩⟩⟩⟩⟩⟩ ?_
      exact f_M_distance_210 sp d N rec41 x0 x1 x2 x3 x4 x5 x8 x8 S hrec41 _ h
  · have c16 := Decidable.not_not.mp c16
    rw [if_pos c16] at h
    refine pE_jump 1 (pc' := 216) (ls' := [some (.ref x0), some (.int x1), some (.int x2), some (.int x3), some (.int x4), some (.int x5), some (.int x6), some (.int x7), some (.int x8), some (.int x9), none, none]) (st' := []) (fun _ => rfl) ?_
    refine pE_weak [some (.ref x0), some (.int x1), some (.int x2), some (.int x3), some (.int x4), some (.int x5), some (.int x6), some (.int x7), some (.int x8), none, none, none] ⟨rfl, ⟨rfl, ⟨rfl, ⟨rfl, ⟨rfl, ⟨rfl, ⟨rfl, ⟨rfl, ⟨rfl, trivial⟩⟩⟩⟩⟩⟩⟩⟩⟩ ?_
    exact f_M_distance_216 sp d N rec41 x0 x1 x2 x3 x4 x5 x6 x7 x8 S hrec41 _ h
def F_M_distance_183 (N : Nat) (rec41 : Int32 → Int32 → Int32 → pm_S → Option (Int32 × pm_S)) (rec86 : Int32 → Int32 → pm_S → Option (Int32 × pm_S)) (x0 : Nat) (x1 : Int32) (x2 : Int32) (x3 : Int32) (x4 : Int32) (x5 : Int32) (x6 : Int32) (x7 : Int32) (x8 : Int32) (x9 : Int32) (x10 : Int32) (S : pm_S) : Option (Int32 × pm_S) :=
    rec86 x9 (x10 + 1) S
set_option maxHeartbeats 4000000 in
set_option maxRecDepth 20000 in
theorem f_M_distance_183 (sp : pm_I → List Value → pm_S → pm_O → Prop) (d N : Nat) (rec41 : Int32 → Int32 → Int32 → pm_S → Option (Int32 × pm_S)) (rec86 : Int32 → Int32 → pm_S → Option (Int32 × pm_S)) (x0 : Nat) (x1 : Int32) (x2 : Int32) (x3 : Int32) (x4 : Int32) (x5 : Int32) (x6 : Int32) (x7 : Int32) (x8 : Int32) (x9 : Int32) (x10 : Int32) (S : pm_S) (hrec41 : ∀ (y1 : Int32) (y2 : Int32) (y3 : Int32) (U : pm_S) (r : (Int32 × pm_S)), rec41 y1 y2 y3 U = some r → pmE pG (pm_rel pG sp (d + 6)) mi_M_distance 41 [some (.ref x0), some (.int x1), some (.int x2), some (.int x3), some (.int x4), some (.int x5), some (.int y1), some (.int y2), some (.int y3), none, none, none] [] U (some (.int r.1), r.2)) (hrec86 : ∀ (y1 : Int32) (y2 : Int32) (U : pm_S) (r : (Int32 × pm_S)), rec86 y1 y2 U = some r → pmE pG (pm_rel pG sp (d + 6)) mi_M_distance 86 [some (.ref x0), some (.int x1), some (.int x2), some (.int x3), some (.int x4), some (.int x5), some (.int x6), some (.int x7), some (.int x8), some (.int y1), some (.int y2), none] [] U (some (.int r.1), r.2)) (r : (Int32 × pm_S)) (h : F_M_distance_183 N rec41 rec86 x0 x1 x2 x3 x4 x5 x6 x7 x8 x9 x10 S = some r) : pmE pG (pm_rel pG sp (d + 6)) mi_M_distance 183 [some (.ref x0), some (.int x1), some (.int x2), some (.int x3), some (.int x4), some (.int x5), some (.int x6), some (.int x7), some (.int x8), some (.int x9), some (.int x10), none] [] S (some (.int r.1), r.2) := by
  unfold F_M_distance_183 at h
  refine pE_jump 2 (pc' := 86) (ls' := [some (.ref x0), some (.int x1), some (.int x2), some (.int x3), some (.int x4), some (.int x5), some (.int x6), some (.int x7), some (.int x8), some (.int x9), some (.int (x10 + 1)), none]) (st' := []) (fun _ => rfl) ?_
  exact hrec86 x9 (x10 + 1) S _ h
def F_M_distance_181 (N : Nat) (rec41 : Int32 → Int32 → Int32 → pm_S → Option (Int32 × pm_S)) (rec86 : Int32 → Int32 → pm_S → Option (Int32 × pm_S)) (x0 : Nat) (x1 : Int32) (x2 : Int32) (x3 : Int32) (x4 : Int32) (x5 : Int32) (x6 : Int32) (x7 : Int32) (x8 : Int32) (x10 : Int32) (t0 : Int32) (S : pm_S) : Option (Int32 × pm_S) :=
    F_M_distance_183 N rec41 rec86 x0 x1 x2 x3 x4 x5 x6 x7 x8 t0 x10 S
set_option maxHeartbeats 4000000 in
set_option maxRecDepth 20000 in
theorem f_M_distance_181 (sp : pm_I → List Value → pm_S → pm_O → Prop) (d N : Nat) (rec41 : Int32 → Int32 → Int32 → pm_S → Option (Int32 × pm_S)) (rec86 : Int32 → Int32 → pm_S → Option (Int32 × pm_S)) (x0 : Nat) (x1 : Int32) (x2 : Int32) (x3 : Int32) (x4 : Int32) (x5 : Int32) (x6 : Int32) (x7 : Int32) (x8 : Int32) (x10 : Int32) (t0 : Int32) (S : pm_S) (hrec41 : ∀ (y1 : Int32) (y2 : Int32) (y3 : Int32) (U : pm_S) (r : (Int32 × pm_S)), rec41 y1 y2 y3 U = some r → pmE pG (pm_rel pG sp (d + 6)) mi_M_distance 41 [some (.ref x0), some (.int x1), some (.int x2), some (.int x3), some (.int x4), some (.int x5), some (.int y1), some (.int y2), some (.int y3), none, none, none] [] U (some (.int r.1), r.2)) (hrec86 : ∀ (y1 : Int32) (y2 : Int32) (U : pm_S) (r : (Int32 × pm_S)), rec86 y1 y2 U = some r → pmE pG (pm_rel pG sp (d + 6)) mi_M_distance 86 [some (.ref x0), some (.int x1), some (.int x2), some (.int x3), some (.int x4), some (.int x5), some (.int x6), some (.int x7), some (.int x8), some (.int y1), some (.int y2), none] [] U (some (.int r.1), r.2)) (r : (Int32 × pm_S)) (h : F_M_distance_181 N rec41 rec86 x0 x1 x2 x3 x4 x5 x6 x7 x8 x10 t0 S = some r) : pmE pG (pm_rel pG sp (d + 6)) mi_M_distance 181 [some (.ref x0), some (.int x1), some (.int x2), some (.int x3), some (.int x4), some (.int x5), some (.int x6), some (.int x7), some (.int x8), none, some (.int x10), none] [.int t0] S (some (.int r.1), r.2) := by
  unfold F_M_distance_181 at h
  refine pE_jump 1 (pc' := 183) (ls' := [some (.ref x0), some (.int x1), some (.int x2), some (.int x3), some (.int x4), some (.int x5), some (.int x6), some (.int x7), some (.int x8), some (.int t0), some (.int x10), none]) (st' := []) (fun _ => rfl) ?_
  exact f_M_distance_183 sp d N rec41 rec86 x0 x1 x2 x3 x4 x5 x6 x7 x8 t0 x10 S hrec41 hrec86 _ h
def F_M_distance_180 (N : Nat) (rec41 : Int32 → Int32 → Int32 → pm_S → Option (Int32 × pm_S)) (rec86 : Int32 → Int32 → pm_S → Option (Int32 × pm_S)) (x0 : Nat) (x1 : Int32) (x2 : Int32) (x3 : Int32) (x4 : Int32) (x5 : Int32) (x6 : Int32) (x7 : Int32) (x8 : Int32) (x10 : Int32) (S : pm_S) : Option (Int32 × pm_S) :=
    F_M_distance_181 N rec41 rec86 x0 x1 x2 x3 x4 x5 x6 x7 x8 x10 0 S
set_option maxHeartbeats 4000000 in
set_option maxRecDepth 20000 in
theorem f_M_distance_180 (sp : pm_I → List Value → pm_S → pm_O → Prop) (d N : Nat) (rec41 : Int32 → Int32 → Int32 → pm_S → Option (Int32 × pm_S)) (rec86 : Int32 → Int32 → pm_S → Option (Int32 × pm_S)) (x0 : Nat) (x1 : Int32) (x2 : Int32) (x3 : Int32) (x4 : Int32) (x5 : Int32) (x6 : Int32) (x7 : Int32) (x8 : Int32) (x10 : Int32) (S : pm_S) (hrec41 : ∀ (y1 : Int32) (y2 : Int32) (y3 : Int32) (U : pm_S) (r : (Int32 × pm_S)), rec41 y1 y2 y3 U = some r → pmE pG (pm_rel pG sp (d + 6)) mi_M_distance 41 [some (.ref x0), some (.int x1), some (.int x2), some (.int x3), some (.int x4), some (.int x5), some (.int y1), some (.int y2), some (.int y3), none, none, none] [] U (some (.int r.1), r.2)) (hrec86 : ∀ (y1 : Int32) (y2 : Int32) (U : pm_S) (r : (Int32 × pm_S)), rec86 y1 y2 U = some r → pmE pG (pm_rel pG sp (d + 6)) mi_M_distance 86 [some (.ref x0), some (.int x1), some (.int x2), some (.int x3), some (.int x4), some (.int x5), some (.int x6), some (.int x7), some (.int x8), some (.int y1), some (.int y2), none] [] U (some (.int r.1), r.2)) (r : (Int32 × pm_S)) (h : F_M_distance_180 N rec41 rec86 x0 x1 x2 x3 x4 x5 x6 x7 x8 x10 S = some r) : pmE pG (pm_rel pG sp (d + 6)) mi_M_distance 180 [some (.ref x0), some (.int x1), some (.int x2), some (.int x3), some (.int x4), some (.int x5), some (.int x6), some (.int x7), some (.int x8), none, some (.int x10), none] [] S (some (.int r.1), r.2) := by
  unfold F_M_distance_180 at h
  refine pE_jump 1 (pc' := 181) (ls' := [some (.ref x0), some (.int x1), some (.int x2), some (.int x3), some (.int x4), some (.int x5), some (.int x6), some (.int x7), some (.int x8), none, some (.int x10), none]) (st' := [.int 0]) (fun _ => rfl) ?_
  exact f_M_distance_181 sp d N rec41 rec86 x0 x1 x2 x3 x4 x5 x6 x7 x8 x10 0 S hrec41 hrec86 _ h
def B_M_distance_86 (N : Nat) (rec41 : Int32 → Int32 → Int32 → pm_S → Option (Int32 × pm_S)) (rec86 : Int32 → Int32 → pm_S → Option (Int32 × pm_S)) (x0 : Nat) (x1 : Int32) (x2 : Int32) (x3 : Int32) (x4 : Int32) (x5 : Int32) (x6 : Int32) (x7 : Int32) (x8 : Int32) (x9 : Int32) (x10 : Int32) (S : pm_S) : Option (Int32 × pm_S) :=
    (oR S x0 11 44).bind fun oq13 => match oq13 with
    | none => none
    | some q13 =>
    (aI [0, 6] S q13 x1).bind fun v14 =>
    if v14 ≤ x10 then
    F_M_distance_189 N rec41 x0 x1 x2 x3 x4 x5 x6 x7 x8 x9 S
    else
    ((oR S x0 11 47).bind fun oq17 => match oq17 with
    | none => none
    | some q17 =>
    (aI [2, 3] S q17 ((24 * x1) + x10)).bind fun v18 =>
    if v18 = 0 then
    ((oR S x0 11 38).bind fun oq19 => match oq19 with
    | none => none
    | some q19 =>
    (oR S x0 11 45).bind fun oq22 => match oq22 with
    | none => none
    | some q22 =>
    (aI [0, 6] S q22 ((24 * x1) + x10)).bind fun v23 =>
    (aI [0, 6] S q19 ((12 * x1) + v23)).bind fun v24 =>
    if v24 = 1 then
    (if x9 = 0 then
    F_M_distance_180 N rec41 rec86 x0 x1 x2 x3 x4 x5 x6 x7 x8 x10 S
    else
    ((oR S x0 11 46).bind fun oq25 => match oq25 with
    | none => none
    | some q25 =>
    (aI [0, 6] S q25 ((24 * x1) + x10)).bind fun v26 =>
    (oR S x0 11 45).bind fun oq27 => match oq27 with
    | none => none
    | some q27 =>
    (aI [0, 6] S q27 ((24 * x1) + x10)).bind fun v28 =>
    (F_M_would N S x0 v28).bind fun (v30, S29) =>
    if x4 < (if 0 ≤ ((v26 / 4) - (v30 / 4)) then ((v26 / 4) - (v30 / 4)) else 0 - ((v26 / 4) - (v30 / 4))) then
    F_M_distance_180 N rec41 rec86 x0 x1 x2 x3 x4 x5 x6 x7 x8 x10 S29
    else
    F_M_distance_181 N rec41 rec86 x0 x1 x2 x3 x4 x5 x6 x7 x8 x10 1 S29))
    else
    F_M_distance_183 N rec41 rec86 x0 x1 x2 x3 x4 x5 x6 x7 x8 x9 x10 S)
    else
    F_M_distance_183 N rec41 rec86 x0 x1 x2 x3 x4 x5 x6 x7 x8 x9 x10 S)
def F_M_distance_86 (N : Nat) (rec41 : Int32 → Int32 → Int32 → pm_S → Option (Int32 × pm_S)) (x0 : Nat) (x1 : Int32) (x2 : Int32) (x3 : Int32) (x4 : Int32) (x5 : Int32) (x6 : Int32) (x7 : Int32) (x8 : Int32) : Nat → Int32 → Int32 → pm_S → Option (Int32 × pm_S)
  | 0 => fun _ _ _ => none
  | n + 1 => fun x9 x10 S => B_M_distance_86 N rec41 (F_M_distance_86 N rec41 x0 x1 x2 x3 x4 x5 x6 x7 x8 n) x0 x1 x2 x3 x4 x5 x6 x7 x8 x9 x10 S
set_option maxHeartbeats 4000000 in
set_option maxRecDepth 20000 in
theorem f_M_distance_86 (sp : pm_I → List Value → pm_S → pm_O → Prop) (d N : Nat) (rec41 : Int32 → Int32 → Int32 → pm_S → Option (Int32 × pm_S)) (x0 : Nat) (x1 : Int32) (x2 : Int32) (x3 : Int32) (x4 : Int32) (x5 : Int32) (x6 : Int32) (x7 : Int32) (x8 : Int32) (hrec41 : ∀ (y1 : Int32) (y2 : Int32) (y3 : Int32) (U : pm_S) (r : (Int32 × pm_S)), rec41 y1 y2 y3 U = some r → pmE pG (pm_rel pG sp (d + 6)) mi_M_distance 41 [some (.ref x0), some (.int x1), some (.int x2), some (.int x3), some (.int x4), some (.int x5), some (.int y1), some (.int y2), some (.int y3), none, none, none] [] U (some (.int r.1), r.2)) : ∀ (n : Nat) (x9 : Int32) (x10 : Int32) (S : pm_S) (r : (Int32 × pm_S)), F_M_distance_86 N rec41 x0 x1 x2 x3 x4 x5 x6 x7 x8 n x9 x10 S = some r → pmE pG (pm_rel pG sp (d + 6)) mi_M_distance 86 [some (.ref x0), some (.int x1), some (.int x2), some (.int x3), some (.int x4), some (.int x5), some (.int x6), some (.int x7), some (.int x8), some (.int x9), some (.int x10), none] [] S (some (.int r.1), r.2) := by
  intro n
  induction n with
  | zero =>
    intro x9 x10 S r h
    cases h
  | succ n ih =>
    intro x9 x10 S r h
    replace h : B_M_distance_86 N rec41 (F_M_distance_86 N rec41 x0 x1 x2 x3 x4 x5 x6 x7 x8 n) x0 x1 x2 x3 x4 x5 x6 x7 x8 x9 x10 S = some r := h
    have hrec86 := ih
    generalize F_M_distance_86 N rec41 x0 x1 x2 x3 x4 x5 x6 x7 x8 n = rec86 at h hrec86
    unfold B_M_distance_86 at h
    refine pE_jump 2 (pc' := 89) (ls' := [some (.ref x0), some (.int x1), some (.int x2), some (.int x3), some (.int x4), some (.int x5), some (.int x6), some (.int x7), some (.int x8), some (.int x9), some (.int x10), none]) (st' := [.ref x0, .int x10]) (fun _ => rfl) ?_
    obtain ⟨oq13, hq13, h⟩ := obind h
    cases oq13 with
    | none => cases h
    | some q13 =>
      try dsimp only at h
      refine pE_gfS rfl rfl hq13 ?_
      refine pE_jump 1 (pc' := 93) (ls' := [some (.ref x0), some (.int x1), some (.int x2), some (.int x3), some (.int x4), some (.int x5), some (.int x6), some (.int x7), some (.int x8), some (.int x9), some (.int x10), none]) (st' := [.int x1, .ref q13, .int x10]) (fun _ => rfl) ?_
      obtain ⟨v14, hv14, h⟩ := obind h
      refine pE_aI rfl rfl hv14 ?_
      refine pE_br (v14 ≤ x10) rfl rfl (fun c35 => ?_) (fun c35 => ?_)
      · rw [if_pos c35] at h
        refine pE_weak [some (.ref x0), some (.int x1), some (.int x2), some (.int x3), some (.int x4), some (.int x5), some (.int x6), some (.int x7), some (.int x8), some (.int x9), none, none] ⟨rfl, ⟨rfl, ⟨rfl, ⟨rfl, ⟨rfl, ⟨rfl, ⟨rfl, ⟨rfl, ⟨rfl, ⟨rfl, trivial⟩⟩⟩⟩⟩⟩⟩⟩⟩⟩ ?_
        exact f_M_distance_189 sp d N rec41 x0 x1 x2 x3 x4 x5 x6 x7 x8 x9 S hrec41 _ h
      · rw [if_neg c35] at h
        refine pE_jump 7 (pc' := 107) (ls' := [some (.ref x0), some (.int x1), some (.int x2), some (.int x3), some (.int x4), some (.int x5), some (.int x6), some (.int x7), some (.int x8), some (.int x9), some (.int x10), some (.int ((24 * x1) + x10))]) (st' := [.ref x0]) (fun _ => rfl) ?_
        obtain ⟨oq17, hq17, h⟩ := obind h
        cases oq17 with
        | none => cases h
        | some q17 =>
          try dsimp only at h
          refine pE_gfS rfl rfl hq17 ?_
          refine pE_jump 1 (pc' := 112) (ls' := [some (.ref x0), some (.int x1), some (.int x2), some (.int x3), some (.int x4), some (.int x5), some (.int x6), some (.int x7), some (.int x8), some (.int x9), some (.int x10), some (.int ((24 * x1) + x10))]) (st' := [.int ((24 * x1) + x10), .ref q17]) (fun _ => rfl) ?_
          obtain ⟨v18, hv18, h⟩ := obind h
          refine pE_aI rfl rfl hv18 ?_
          refine pE_br (¬ v18 = 0) rfl rfl (fun c34 => ?_) (fun c34 => ?_)
          · rw [if_neg c34] at h
            refine pE_weak [some (.ref x0), some (.int x1), some (.int x2), some (.int x3), some (.int x4), some (.int x5), some (.int x6), some (.int x7), some (.int x8), some (.int x9), some (.int x10), none] ⟨rfl, ⟨rfl, ⟨rfl, ⟨rfl, ⟨rfl, ⟨rfl, ⟨rfl, ⟨rfl, ⟨rfl, ⟨rfl, ⟨rfl, trivial⟩⟩⟩⟩⟩⟩⟩⟩⟩⟩⟩ ?_
            exact f_M_distance_183 sp d N rec41 rec86 x0 x1 x2 x3 x4 x5 x6 x7 x8 x9 x10 S hrec41 hrec86 _ h
          · have c34 := Decidable.not_not.mp c34
            rw [if_pos c34] at h
            refine pE_jump 1 (pc' := 117) (ls' := [some (.ref x0), some (.int x1), some (.int x2), some (.int x3), some (.int x4), some (.int x5), some (.int x6), some (.int x7), some (.int x8), some (.int x9), some (.int x10), some (.int ((24 * x1) + x10))]) (st' := [.ref x0]) (fun _ => rfl) ?_
            obtain ⟨oq19, hq19, h⟩ := obind h
            cases oq19 with
            | none => cases h
            | some q19 =>
              try dsimp only at h
              refine pE_gfS rfl rfl hq19 ?_
              refine pE_jump 4 (pc' := 125) (ls' := [some (.ref x0), some (.int x1), some (.int x2), some (.int x3), some (.int x4), some (.int x5), some (.int x6), some (.int x7), some (.int x8), some (.int x9), some (.int x10), some (.int ((24 * x1) + x10))]) (st' := [.ref x0, .int (12 * x1), .ref q19]) (fun _ => rfl) ?_
              obtain ⟨oq22, hq22, h⟩ := obind h
              cases oq22 with
              | none => cases h
              | some q22 =>
                try dsimp only at h
                refine pE_gfS rfl rfl hq22 ?_
                refine pE_jump 1 (pc' := 130) (ls' := [some (.ref x0), some (.int x1), some (.int x2), some (.int x3), some (.int x4), some (.int x5), some (.int x6), some (.int x7), some (.int x8), some (.int x9), some (.int x10), some (.int ((24 * x1) + x10))]) (st' := [.int ((24 * x1) + x10), .ref q22, .int (12 * x1), .ref q19]) (fun _ => rfl) ?_
                obtain ⟨v23, hv23, h⟩ := obind h
                refine pE_aI rfl rfl hv23 ?_
                refine pE_jump 1 (pc' := 132) (ls' := [some (.ref x0), some (.int x1), some (.int x2), some (.int x3), some (.int x4), some (.int x5), some (.int x6), some (.int x7), some (.int x8), some (.int x9), some (.int x10), some (.int ((24 * x1) + x10))]) (st' := [.int ((12 * x1) + v23), .ref q19]) (fun _ => rfl) ?_
                obtain ⟨v24, hv24, h⟩ := obind h
                refine pE_aI rfl rfl hv24 ?_
                refine pE_jump 1 (pc' := 134) (ls' := [some (.ref x0), some (.int x1), some (.int x2), some (.int x3), some (.int x4), some (.int x5), some (.int x6), some (.int x7), some (.int x8), some (.int x9), some (.int x10), some (.int ((24 * x1) + x10))]) (st' := [.int 1, .int v24]) (fun _ => rfl) ?_
                refine pE_br (v24 = 1) rfl rfl (fun c33 => ?_) (fun c33 => ?_)
                · rw [if_pos c33] at h
                  refine pE_jump 1 (pc' := 142) (ls' := [some (.ref x0), some (.int x1), some (.int x2), some (.int x3), some (.int x4), some (.int x5), some (.int x6), some (.int x7), some (.int x8), some (.int x9), some (.int x10), some (.int ((24 * x1) + x10))]) (st' := [.int x9]) (fun _ => rfl) ?_
                  refine pE_br (x9 = 0) rfl rfl (fun c32 => ?_) (fun c32 => ?_)
                  · rw [if_pos c32] at h
                    refine pE_weak [some (.ref x0), some (.int x1), some (.int x2), some (.int x3), some (.int x4), some (.int x5), some (.int x6), some (.int x7), some (.int x8), none, some (.int x10), none] ⟨rfl, ⟨rfl, ⟨rfl, ⟨rfl, ⟨rfl, ⟨rfl, ⟨rfl, ⟨rfl, ⟨rfl, ⟨rfl, trivial⟩⟩⟩⟩⟩⟩⟩⟩⟩⟩ ?_
                    exact f_M_distance_180 sp d N rec41 rec86 x0 x1 x2 x3 x4 x5 x6 x7 x8 x10 S hrec41 hrec86 _ h
                  · rw [if_neg c32] at h
                    refine pE_jump 1 (pc' := 146) (ls' := [some (.ref x0), some (.int x1), some (.int x2), some (.int x3), some (.int x4), some (.int x5), some (.int x6), some (.int x7), some (.int x8), some (.int x9), some (.int x10), some (.int ((24 * x1) + x10))]) (st' := [.ref x0]) (fun _ => rfl) ?_
                    obtain ⟨oq25, hq25, h⟩ := obind h
                    cases oq25 with
                    | none => cases h
                    | some q25 =>
                      try dsimp only at h
                      refine pE_gfS rfl rfl hq25 ?_
                      refine pE_jump 1 (pc' := 151) (ls' := [some (.ref x0), some (.int x1), some (.int x2), some (.int x3), some (.int x4), some (.int x5), some (.int x6), some (.int x7), some (.int x8), some (.int x9), some (.int x10), some (.int ((24 * x1) + x10))]) (st' := [.int ((24 * x1) + x10), .ref q25]) (fun _ => rfl) ?_
                      obtain ⟨v26, hv26, h⟩ := obind h
                      refine pE_aI rfl rfl hv26 ?_
                      refine pE_jump 1 (pc' := 153) (ls' := [some (.ref x0), some (.int x1), some (.int x2), some (.int x3), some (.int x4), some (.int x5), some (.int x6), some (.int x7), some (.int x8), some (.int x9), some (.int x10), some (.int ((24 * x1) + x10))]) (st' := [.int 4, .int v26]) (fun _ => rfl) ?_
                      refine pE_jump 1 (pc' := 154) (ls' := [some (.ref x0), some (.int x1), some (.int x2), some (.int x3), some (.int x4), some (.int x5), some (.int x6), some (.int x7), some (.int x8), some (.int x9), some (.int x10), some (.int ((24 * x1) + x10))]) (st' := [.int (v26 / 4)]) (fun _ => rfl) ?_
                      refine pE_jump 2 (pc' := 156) (ls' := [some (.ref x0), some (.int x1), some (.int x2), some (.int x3), some (.int x4), some (.int x5), some (.int x6), some (.int x7), some (.int x8), some (.int x9), some (.int x10), some (.int ((24 * x1) + x10))]) (st' := [.ref x0, .ref x0, .int (v26 / 4)]) (fun _ => rfl) ?_
                      obtain ⟨oq27, hq27, h⟩ := obind h
                      cases oq27 with
                      | none => cases h
                      | some q27 =>
                        try dsimp only at h
                        refine pE_gfS rfl rfl hq27 ?_
                        refine pE_jump 1 (pc' := 161) (ls' := [some (.ref x0), some (.int x1), some (.int x2), some (.int x3), some (.int x4), some (.int x5), some (.int x6), some (.int x7), some (.int x8), some (.int x9), some (.int x10), some (.int ((24 * x1) + x10))]) (st' := [.int ((24 * x1) + x10), .ref q27, .ref x0, .int (v26 / 4)]) (fun _ => rfl) ?_
                        obtain ⟨v28, hv28, h⟩ := obind h
                        refine pE_aI rfl rfl hv28 ?_
                        obtain ⟨⟨v30, S29⟩, hv30, h⟩ := obind h
                        try dsimp only at h
                        refine pE_iv (Bs := [.int v28]) (st := [.int (v26 / 4)]) 1 rfl (Or.inl ⟨rfl, rfl⟩) rfl rfl (Nat.le_of_ble_eq_true rfl) (Nat.le_of_ble_eq_true rfl) (g_M_would hv30) (f_M_would sp d N S x0 v28 _ hv30) ?_
                        refine pE_jump 1 (pc' := 166) (ls' := [some (.ref x0), some (.int x1), some (.int x2), some (.int x3), some (.int x4), some (.int x5), some (.int x6), some (.int x7), some (.int x8), some (.int x9), some (.int x10), some (.int ((24 * x1) + x10))]) (st' := [.int 4, .int v30, .int (v26 / 4)]) (fun _ => rfl) ?_
                        refine pE_jump 1 (pc' := 167) (ls' := [some (.ref x0), some (.int x1), some (.int x2), some (.int x3), some (.int x4), some (.int x5), some (.int x6), some (.int x7), some (.int x8), some (.int x9), some (.int x10), some (.int ((24 * x1) + x10))]) (st' := [.int (v30 / 4), .int (v26 / 4)]) (fun _ => rfl) ?_
                        refine pE_jump 1 (pc' := 168) (ls' := [some (.ref x0), some (.int x1), some (.int x2), some (.int x3), some (.int x4), some (.int x5), some (.int x6), some (.int x7), some (.int x8), some (.int x9), some (.int x10), some (.int ((24 * x1) + x10))]) (st' := [.int ((v26 / 4) - (v30 / 4))]) (fun _ => rfl) ?_
                        refine pE_mb rfl rfl (Nat.le_of_ble_eq_true rfl) ?_
                        refine pE_jump 1 (pc' := 173) (ls' := [some (.ref x0), some (.int x1), some (.int x2), some (.int x3), some (.int x4), some (.int x5), some (.int x6), some (.int x7), some (.int x8), some (.int x9), some (.int x10), some (.int ((24 * x1) + x10))]) (st' := [.int x4, .int (if 0 ≤ ((v26 / 4) - (v30 / 4)) then ((v26 / 4) - (v30 / 4)) else 0 - ((v26 / 4) - (v30 / 4)))]) (fun _ => rfl) ?_
                        refine pE_br (x4 < (if 0 ≤ ((v26 / 4) - (v30 / 4)) then ((v26 / 4) - (v30 / 4)) else 0 - ((v26 / 4) - (v30 / 4)))) rfl rfl (fun c31 => ?_) (fun c31 => ?_)
                        · rw [if_pos c31] at h
                          refine pE_weak [some (.ref x0), some (.int x1), some (.int x2), some (.int x3), some (.int x4), some (.int x5), some (.int x6), some (.int x7), some (.int x8), none, some (.int x10), none] ⟨rfl, ⟨rfl, ⟨rfl, ⟨rfl, ⟨rfl, ⟨rfl, ⟨rfl, ⟨rfl, ⟨rfl, ⟨rfl, trivial⟩⟩⟩⟩⟩⟩⟩⟩⟩⟩ ?_
                          exact f_M_distance_180 sp d N rec41 rec86 x0 x1 x2 x3 x4 x5 x6 x7 x8 x10 S29 hrec41 hrec86 _ h
                        · rw [if_neg c31] at h
                          refine pE_jump 2 (pc' := 181) (ls' := [some (.ref x0), some (.int x1), some (.int x2), some (.int x3), some (.int x4), some (.int x5), some (.int x6), some (.int x7), some (.int x8), some (.int x9), some (.int x10), some (.int ((24 * x1) + x10))]) (st' := [.int 1]) (fun _ => rfl) ?_
                          refine pE_weak [some (.ref x0), some (.int x1), some (.int x2), some (.int x3), some (.int x4), some (.int x5), some (.int x6), some (.int x7), some (.int x8), none, some (.int x10), none] ⟨rfl, ⟨rfl, ⟨rfl, ⟨rfl, ⟨rfl, ⟨rfl, ⟨rfl, ⟨rfl, ⟨rfl, ⟨rfl, trivial⟩⟩⟩⟩⟩⟩⟩⟩⟩⟩ ?_
                          exact f_M_distance_181 sp d N rec41 rec86 x0 x1 x2 x3 x4 x5 x6 x7 x8 x10 1 S29 hrec41 hrec86 _ h
                · rw [if_neg c33] at h
                  refine pE_jump 1 (pc' := 183) (ls' := [some (.ref x0), some (.int x1), some (.int x2), some (.int x3), some (.int x4), some (.int x5), some (.int x6), some (.int x7), some (.int x8), some (.int x9), some (.int x10), some (.int ((24 * x1) + x10))]) (st' := []) (fun _ => rfl) ?_
                  refine pE_weak [some (.ref x0), some (.int x1), some (.int x2), some (.int x3), some (.int x4), some (.int x5), some (.int x6), some (.int x7), some (.int x8), some (.int x9), some (.int x10), none] ⟨rfl, ⟨rfl, ⟨rfl, ⟨rfl, ⟨rfl, ⟨rfl, ⟨rfl, ⟨rfl, ⟨rfl, ⟨rfl, ⟨rfl, trivial⟩⟩⟩⟩⟩⟩⟩⟩⟩⟩⟩ ?_
                  exact f_M_distance_183 sp d N rec41 rec86 x0 x1 x2 x3 x4 x5 x6 x7 x8 x9 x10 S hrec41 hrec86 _ h
def B_M_distance_41 (N : Nat)  (rec41 : Int32 → Int32 → Int32 → pm_S → Option (Int32 × pm_S)) (x0 : Nat) (x1 : Int32) (x2 : Int32) (x3 : Int32) (x4 : Int32) (x5 : Int32) (x6 : Int32) (x7 : Int32) (x8 : Int32) (S : pm_S) : Option (Int32 × pm_S) :=
    (oR S x0 11 11).bind fun oq6 => match oq6 with
    | none => none
    | some q6 =>
    (aI [0, 6] S q6 ((7 * x1) + x2)).bind fun v7 =>
    if v7 < x8 then
    F_M_distance_222 N x5 x6 x7 S
    else
    ((F_M_lay N S x0 x1 0 0).bind fun S9 =>
    (wF S9 x0 11 31 .int (.int x2)).bind fun S10 =>
    (wF S10 x0 11 32 .int (.int x3)).bind fun S11 =>
    (wF S11 x0 11 33 .int (.int x8)).bind fun S12 =>
    F_M_distance_86 N rec41 x0 x1 x2 x3 x4 x5 x6 x7 x8 N 1 0 S12)
def F_M_distance_41 (N : Nat)  (x0 : Nat) (x1 : Int32) (x2 : Int32) (x3 : Int32) (x4 : Int32) (x5 : Int32) : Nat → Int32 → Int32 → Int32 → pm_S → Option (Int32 × pm_S)
  | 0 => fun _ _ _ _ => none
  | n + 1 => fun x6 x7 x8 S => B_M_distance_41 N  (F_M_distance_41 N  x0 x1 x2 x3 x4 x5 n) x0 x1 x2 x3 x4 x5 x6 x7 x8 S
set_option maxHeartbeats 4000000 in
set_option maxRecDepth 20000 in
theorem f_M_distance_41 (sp : pm_I → List Value → pm_S → pm_O → Prop) (d N : Nat)  (x0 : Nat) (x1 : Int32) (x2 : Int32) (x3 : Int32) (x4 : Int32) (x5 : Int32)  : ∀ (n : Nat) (x6 : Int32) (x7 : Int32) (x8 : Int32) (S : pm_S) (r : (Int32 × pm_S)), F_M_distance_41 N  x0 x1 x2 x3 x4 x5 n x6 x7 x8 S = some r → pmE pG (pm_rel pG sp (d + 6)) mi_M_distance 41 [some (.ref x0), some (.int x1), some (.int x2), some (.int x3), some (.int x4), some (.int x5), some (.int x6), some (.int x7), some (.int x8), none, none, none] [] S (some (.int r.1), r.2) := by
  intro n
  induction n with
  | zero =>
    intro x6 x7 x8 S r h
    cases h
  | succ n ih =>
    intro x6 x7 x8 S r h
    replace h : B_M_distance_41 N  (F_M_distance_41 N  x0 x1 x2 x3 x4 x5 n) x0 x1 x2 x3 x4 x5 x6 x7 x8 S = some r := h
    have hrec41 := ih
    generalize F_M_distance_41 N  x0 x1 x2 x3 x4 x5 n = rec41 at h hrec41
    unfold B_M_distance_41 at h
    refine pE_jump 2 (pc' := 44) (ls' := [some (.ref x0), some (.int x1), some (.int x2), some (.int x3), some (.int x4), some (.int x5), some (.int x6), some (.int x7), some (.int x8), none, none, none]) (st' := [.ref x0, .int x8]) (fun _ => rfl) ?_
    obtain ⟨oq6, hq6, h⟩ := obind h
    cases oq6 with
    | none => cases h
    | some q6 =>
      try dsimp only at h
      refine pE_gfS rfl rfl hq6 ?_
      refine pE_jump 5 (pc' := 53) (ls' := [some (.ref x0), some (.int x1), some (.int x2), some (.int x3), some (.int x4), some (.int x5), some (.int x6), some (.int x7), some (.int x8), none, none, none]) (st' := [.int ((7 * x1) + x2), .ref q6, .int x8]) (fun _ => rfl) ?_
      obtain ⟨v7, hv7, h⟩ := obind h
      refine pE_aI rfl rfl hv7 ?_
      refine pE_br (v7 < x8) rfl rfl (fun c36 => ?_) (fun c36 => ?_)
      · rw [if_pos c36] at h
        refine pE_weak [none, none, none, none, none, some (.int x5), some (.int x6), some (.int x7), none, none, none, none] ⟨rfl, ⟨rfl, ⟨rfl, trivial⟩⟩⟩ ?_
        exact f_M_distance_222 sp d N x5 x6 x7 S _ h
      · rw [if_neg c36] at h
        refine pE_jump 4 (pc' := 61) (ls' := [some (.ref x0), some (.int x1), some (.int x2), some (.int x3), some (.int x4), some (.int x5), some (.int x6), some (.int x7), some (.int x8), none, none, none]) (st' := [.int 0, .int 0, .int x1, .ref x0]) (fun _ => rfl) ?_
        obtain ⟨S9, hS9, h⟩ := obind h
        refine pE_iv (Bs := [.int x1, .int 0, .int 0]) (st := []) 1 rfl (Or.inl ⟨rfl, rfl⟩) rfl rfl (Nat.le_of_ble_eq_true rfl) (Nat.le_of_ble_eq_true rfl) (g_M_lay hS9) (f_M_lay sp (d + 3) N S x0 x1 0 0 _ hS9) ?_
        refine pE_jump 2 (pc' := 66) (ls' := [some (.ref x0), some (.int x1), some (.int x2), some (.int x3), some (.int x4), some (.int x5), some (.int x6), some (.int x7), some (.int x8), none, none, none]) (st' := [.int x2, .ref x0]) (fun _ => rfl) ?_
        obtain ⟨S10, hS10, h⟩ := obind h
        refine pE_pf rfl rfl rfl hS10 ?_
        refine pE_jump 2 (pc' := 71) (ls' := [some (.ref x0), some (.int x1), some (.int x2), some (.int x3), some (.int x4), some (.int x5), some (.int x6), some (.int x7), some (.int x8), none, none, none]) (st' := [.int x3, .ref x0]) (fun _ => rfl) ?_
        obtain ⟨S11, hS11, h⟩ := obind h
        refine pE_pf rfl rfl rfl hS11 ?_
        refine pE_jump 2 (pc' := 77) (ls' := [some (.ref x0), some (.int x1), some (.int x2), some (.int x3), some (.int x4), some (.int x5), some (.int x6), some (.int x7), some (.int x8), none, none, none]) (st' := [.int x8, .ref x0]) (fun _ => rfl) ?_
        obtain ⟨S12, hS12, h⟩ := obind h
        refine pE_pf rfl rfl rfl hS12 ?_
        refine pE_jump 4 (pc' := 86) (ls' := [some (.ref x0), some (.int x1), some (.int x2), some (.int x3), some (.int x4), some (.int x5), some (.int x6), some (.int x7), some (.int x8), some (.int 1), some (.int 0), none]) (st' := []) (fun _ => rfl) ?_
        exact f_M_distance_86 sp d N rec41 x0 x1 x2 x3 x4 x5 x6 x7 x8 hrec41 N 1 0 S12 _ h
def F_M_distance (N : Nat) (S : pm_S) (a : Nat) (p0 : Int32) (p1 : Int32) (p2 : Int32) (p3 : Int32) (p4 : Int32) : Option (Int32 × pm_S) :=
    if rcv S a 11 = true then
    ((wF S a 11 0 .int (.int 0)).bind fun S1 =>
    (F_M_isPair N S1 a p0 p1 p2).bind fun (v3, S2) =>
    if v3 = 0 then
    F_M_distance_30 N S2
    else
    (if p3 < 0 then
    F_M_distance_30 N S2
    else
    ((F_M_isIn N S2 p4 0 1).bind fun (v5, S4) =>
    if v5 = 0 then
    F_M_distance_30 N S4
    else
    F_M_distance_41 N a p0 p1 p2 p3 p4 N (-1) (-1) 0 S4)))
    else none
theorem g_M_distance {N : Nat} {S : pm_S} {a : Nat} {p0 : Int32} {p1 : Int32} {p2 : Int32} {p3 : Int32} {p4 : Int32} {r : (Int32 × pm_S)} (h : F_M_distance N S a p0 p1 p2 p3 p4 = some r) : rcv S a 11 = true := by
  unfold F_M_distance at h
  by_cases c : rcv S a 11 = true
  · exact c
  · rw [if_neg c] at h; cases h
set_option maxHeartbeats 4000000 in
set_option maxRecDepth 20000 in
theorem f_M_distance (sp : pm_I → List Value → pm_S → pm_O → Prop) (d N : Nat) (S : pm_S) (a : Nat) (p0 : Int32) (p1 : Int32) (p2 : Int32) (p3 : Int32) (p4 : Int32) (r : (Int32 × pm_S)) (h : F_M_distance N S a p0 p1 p2 p3 p4 = some r) : pm_rel pG sp (d + 7) mi_M_distance [.ref a, .int p0, .int p1, .int p2, .int p3, .int p4] S (some (.int r.1), r.2) := by
  have hg := g_M_distance h
  unfold F_M_distance at h
  rw [if_pos hg] at h
  refine pE_rel (d := d + 6) ?_
  show pmE pG _ mi_M_distance 0 [some (.ref a), some (.int p0), some (.int p1), some (.int p2), some (.int p3), some (.int p4), none, none, none, none, none, none] [] S _
  refine pE_jump 2 (pc' := 2) (ls' := [some (.ref a), some (.int p0), some (.int p1), some (.int p2), some (.int p3), some (.int p4), none, none, none, none, none, none]) (st' := [.int 0, .ref a]) (fun _ => rfl) ?_
  obtain ⟨S1, hS1, h⟩ := obind h
  refine pE_pf rfl rfl rfl hS1 ?_
  refine pE_jump 4 (pc' := 9) (ls' := [some (.ref a), some (.int p0), some (.int p1), some (.int p2), some (.int p3), some (.int p4), none, none, none, none, none, none]) (st' := [.int p2, .int p1, .int p0, .ref a]) (fun _ => rfl) ?_
  obtain ⟨⟨v3, S2⟩, hv3, h⟩ := obind h
  try dsimp only at h
  refine pE_iv (Bs := [.int p0, .int p1, .int p2]) (st := []) 1 rfl (Or.inl ⟨rfl, rfl⟩) rfl rfl (Nat.le_of_ble_eq_true rfl) (Nat.le_of_ble_eq_true rfl) (g_M_isPair hv3) (f_M_isPair sp (d + 3) N S1 a p0 p1 p2 _ hv3) ?_
  refine pE_br (v3 = 0) rfl rfl (fun c39 => ?_) (fun c39 => ?_)
  · rw [if_pos c39] at h
    refine pE_weak [none, none, none, none, none, none, none, none, none, none, none, none] trivial ?_
    exact f_M_distance_30 sp d N S2 _ h
  · rw [if_neg c39] at h
    refine pE_jump 1 (pc' := 17) (ls' := [some (.ref a), some (.int p0), some (.int p1), some (.int p2), some (.int p3), some (.int p4), none, none, none, none, none, none]) (st' := [.int p3]) (fun _ => rfl) ?_
    refine pE_br (p3 < 0) rfl rfl (fun c38 => ?_) (fun c38 => ?_)
    · rw [if_pos c38] at h
      refine pE_weak [none, none, none, none, none, none, none, none, none, none, none, none] trivial ?_
      exact f_M_distance_30 sp d N S2 _ h
    · rw [if_neg c38] at h
      refine pE_jump 3 (pc' := 24) (ls' := [some (.ref a), some (.int p0), some (.int p1), some (.int p2), some (.int p3), some (.int p4), none, none, none, none, none, none]) (st' := [.int 1, .int 0, .int p4]) (fun _ => rfl) ?_
      obtain ⟨⟨v5, S4⟩, hv5, h⟩ := obind h
      try dsimp only at h
      refine pE_is (Bs := [.int p4, .int 0, .int 1]) (st := []) rfl rfl rfl (Nat.le_of_ble_eq_true rfl) (Nat.le_of_ble_eq_true rfl) (f_M_isIn sp (d + 5) N S2 p4 0 1 _ hv5) ?_
      refine pE_br (¬ v5 = 0) rfl rfl (fun c37 => ?_) (fun c37 => ?_)
      · rw [if_neg c37] at h
        refine pE_jump 6 (pc' := 41) (ls' := [some (.ref a), some (.int p0), some (.int p1), some (.int p2), some (.int p3), some (.int p4), some (.int (-1)), some (.int (-1)), some (.int 0), none, none, none]) (st' := []) (fun _ => rfl) ?_
        exact f_M_distance_41 sp d N a p0 p1 p2 p3 p4 N (-1) (-1) 0 S4 _ h
      · have c37 := Decidable.not_not.mp c37
        rw [if_pos c37] at h
        refine pE_weak [none, none, none, none, none, none, none, none, none, none, none, none] trivial ?_
        exact f_M_distance_30 sp d N S4 _ h
