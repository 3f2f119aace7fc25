def F_M_here_28 (N : Nat)  (t0 : Int32) (S : pm_S) : Option (Int32 × pm_S) :=
    some (t0, S)
set_option maxHeartbeats 4000000 in
set_option maxRecDepth 20000 in
theorem f_M_here_28 (sp : pm_I → List Value → pm_S → pm_O → Prop) (d N : Nat)  (t0 : Int32) (S : pm_S)  (r : (Int32 × pm_S)) (h : F_M_here_28 N  t0 S = some r) : pmE pG (pm_rel pG sp (d + 0)) mi_M_here 28 [none] [.int t0] S (some (.int r.1), r.2) := by
  unfold F_M_here_28 at h
  cases h
  exact pE_ret rfl rfl rfl
def F_M_here (N : Nat) (S : pm_S) (a : Nat) : Option (Int32 × pm_S) :=
    if rcv S a 11 = true then
    ((oI S a 11 3).bind fun v1 =>
    (oI S a 11 2).bind fun v2 =>
    if v2 ≤ v1 then
    F_M_here_28 N (-1) S
    else
    ((oR S a 11 1).bind fun oq3 => match oq3 with
    | none => none
    | some q3 =>
    (oI S a 11 3).bind fun v5 =>
    (aI [2, 3] S q3 v5).bind fun v6 =>
    F_M_here_28 N (v6 &&& 255) S))
    else none
theorem g_M_here {N : Nat} {S : pm_S} {a : Nat} {r : (Int32 × pm_S)} (h : F_M_here N S a = some r) : rcv S a 11 = true := by
  unfold F_M_here at h
  by_cases c : rcv S a 11 = true
  · exact c
  · rw [if_neg c] at h; cases h
set_option maxHeartbeats 4000000 in
set_option maxRecDepth 20000 in
theorem f_M_here (sp : pm_I → List Value → pm_S → pm_O → Prop) (d N : Nat) (S : pm_S) (a : Nat) (r : (Int32 × pm_S)) (h : F_M_here N S a = some r) : pm_rel pG sp (d + 1) mi_M_here [.ref a] S (some (.int r.1), r.2) := by
  have hg := g_M_here h
  unfold F_M_here at h
  rw [if_pos hg] at h
  refine pE_rel (d := d + 0) ?_
  show pmE pG _ mi_M_here 0 [some (.ref a)] [] S _
  refine pE_jump 1 (pc' := 1) (ls' := [some (.ref a)]) (st' := [.ref a]) (fun _ => rfl) ?_
  obtain ⟨v1, hv1, h⟩ := obind h
  refine pE_gfI rfl rfl hv1 ?_
  refine pE_jump 1 (pc' := 5) (ls' := [some (.ref a)]) (st' := [.ref a, .int v1]) (fun _ => rfl) ?_
  obtain ⟨v2, hv2, h⟩ := obind h
  refine pE_gfI rfl rfl hv2 ?_
  refine pE_br (v2 ≤ v1) rfl rfl (fun c7 => ?_) (fun c7 => ?_)
  · rw [if_pos c7] at h
    refine pE_jump 1 (pc' := 28) (ls' := [some (.ref a)]) (st' := [.int (-1)]) (fun _ => rfl) ?_
    refine pE_weak [none] trivial ?_
    exact f_M_here_28 sp d N (-1) S _ h
  · rw [if_neg c7] at h
    refine pE_jump 1 (pc' := 12) (ls' := [some (.ref a)]) (st' := [.ref a]) (fun _ => rfl) ?_
    obtain ⟨oq3, hq3, h⟩ := obind h
    cases oq3 with
    | none => cases h
    | some q3 =>
      try dsimp only at h
      refine pE_gfS rfl rfl hq3 ?_
      refine pE_jump 1 (pc' := 16) (ls' := [some (.ref a)]) (st' := [.ref a, .ref q3]) (fun _ => rfl) ?_
      obtain ⟨v5, hv5, h⟩ := obind h
      refine pE_gfI rfl rfl hv5 ?_
      obtain ⟨v6, hv6, h⟩ := obind h
      refine pE_aI rfl rfl hv6 ?_
      refine pE_jump 3 (pc' := 28) (ls' := [some (.ref a)]) (st' := [.int (v6 &&& 255)]) (fun _ => rfl) ?_
      refine pE_weak [none] trivial ?_
      exact f_M_here_28 sp d N (v6 &&& 255) S _ h
def F_M_look_22 (N : Nat)  (x0 : Nat) (S : pm_S) : Option (Int32 × pm_S) :=
    (F_M_here N S x0).bind fun (v6, S5) =>
    some (v6, S5)
set_option maxHeartbeats 4000000 in
set_option maxRecDepth 20000 in
theorem f_M_look_22 (sp : pm_I → List Value → pm_S → pm_O → Prop) (d N : Nat)  (x0 : Nat) (S : pm_S)  (r : (Int32 × pm_S)) (h : F_M_look_22 N  x0 S = some r) : pmE pG (pm_rel pG sp (d + 1)) mi_M_look 22 [some (.ref x0)] [] S (some (.int r.1), r.2) := by
  unfold F_M_look_22 at h
  refine pE_jump 1 (pc' := 23) (ls' := [some (.ref x0)]) (st' := [.ref x0]) (fun _ => rfl) ?_
  obtain ⟨⟨v6, S5⟩, hv6, h⟩ := obind h
  try dsimp only at h
  refine pE_iv (Bs := []) (st := []) 1 rfl (Or.inl ⟨rfl, rfl⟩) rfl rfl (Nat.le_of_ble_eq_true rfl) (Nat.le_of_ble_eq_true rfl) (g_M_here hv6) (f_M_here sp d N S x0 _ hv6) ?_
  cases h
  exact pE_ret rfl rfl rfl
def B_M_look_0 (N : Nat)  (rec0 : pm_S → Option (Int32 × pm_S)) (x0 : Nat)  (S : pm_S) : Option (Int32 × pm_S) :=
    (F_M_here N S x0).bind fun (v2, S1) =>
    if v2 = 32 then
    ((oI S1 x0 11 3).bind fun v3 =>
    (wF S1 x0 11 3 .int (.int (v3 + 1))).bind fun S4 =>
    rec0 S4)
    else
    F_M_look_22 N x0 S1
def F_M_look_0 (N : Nat)  (x0 : Nat) : Nat → pm_S → Option (Int32 × pm_S)
  | 0 => fun _ => none
  | n + 1 => fun  S => B_M_look_0 N  (F_M_look_0 N  x0 n) x0  S
set_option maxHeartbeats 4000000 in
set_option maxRecDepth 20000 in
theorem f_M_look_0 (sp : pm_I → List Value → pm_S → pm_O → Prop) (d N : Nat)  (x0 : Nat)  : ∀ (n : Nat)  (S : pm_S) (r : (Int32 × pm_S)), F_M_look_0 N  x0 n  S = some r → pmE pG (pm_rel pG sp (d + 1)) mi_M_look 0 [some (.ref x0)] [] S (some (.int r.1), r.2) := by
  intro n
  induction n with
  | zero =>
    intro  S r h
    cases h
  | succ n ih =>
    intro  S r h
    replace h : B_M_look_0 N  (F_M_look_0 N  x0 n) x0  S = some r := h
    have hrec0 := ih
    generalize F_M_look_0 N  x0 n = rec0 at h hrec0
    unfold B_M_look_0 at h
    refine pE_jump 1 (pc' := 1) (ls' := [some (.ref x0)]) (st' := [.ref x0]) (fun _ => rfl) ?_
    obtain ⟨⟨v2, S1⟩, hv2, h⟩ := obind h
    try dsimp only at h
    refine pE_iv (Bs := []) (st := []) 1 rfl (Or.inl ⟨rfl, rfl⟩) rfl rfl (Nat.le_of_ble_eq_true rfl) (Nat.le_of_ble_eq_true rfl) (g_M_here hv2) (f_M_here sp d N S x0 _ hv2) ?_
    refine pE_jump 1 (pc' := 6) (ls' := [some (.ref x0)]) (st' := [.int 32, .int v2]) (fun _ => rfl) ?_
    refine pE_br (¬ v2 = 32) rfl rfl (fun c7 => ?_) (fun c7 => ?_)
    · rw [if_neg c7] at h
      exact f_M_look_22 sp d N x0 S1 _ h
    · have c7 := Decidable.not_not.mp c7
      rw [if_pos c7] at h
      refine pE_jump 2 (pc' := 11) (ls' := [some (.ref x0)]) (st' := [.ref x0, .ref x0]) (fun _ => rfl) ?_
      obtain ⟨v3, hv3, h⟩ := obind h
      refine pE_gfI rfl rfl hv3 ?_
      refine pE_jump 2 (pc' := 16) (ls' := [some (.ref x0)]) (st' := [.int (v3 + 1), .ref x0]) (fun _ => rfl) ?_
      obtain ⟨S4, hS4, h⟩ := obind h
      refine pE_pf rfl rfl rfl hS4 ?_
      refine pE_jump 1 (pc' := 0) (ls' := [some (.ref x0)]) (st' := []) (fun _ => rfl) ?_
      exact hrec0 S4 _ h
def F_M_look (N : Nat) (S : pm_S) (a : Nat) : Option (Int32 × pm_S) :=
    if rcv S a 11 = true then
    (F_M_look_0 N a N S)
    else none
theorem g_M_look {N : Nat} {S : pm_S} {a : Nat} {r : (Int32 × pm_S)} (h : F_M_look N S a = some r) : rcv S a 11 = true := by
  unfold F_M_look at h
  by_cases c : rcv S a 11 = true
  · exact c
  · rw [if_neg c] at h; cases h
set_option maxHeartbeats 4000000 in
set_option maxRecDepth 20000 in
theorem f_M_look (sp : pm_I → List Value → pm_S → pm_O → Prop) (d N : Nat) (S : pm_S) (a : Nat) (r : (Int32 × pm_S)) (h : F_M_look N S a = some r) : pm_rel pG sp (d + 2) mi_M_look [.ref a] S (some (.int r.1), r.2) := by
  have hg := g_M_look h
  unfold F_M_look at h
  rw [if_pos hg] at h
  refine pE_rel (d := d + 1) ?_
  show pmE pG _ mi_M_look 0 [some (.ref a)] [] S _
  exact f_M_look_0 sp d N a N S _ h
def F_M_fails_13 (N : Nat)   (S : pm_S) : Option (Int32 × pm_S) :=
    some (0, S)
set_option maxHeartbeats 4000000 in
set_option maxRecDepth 20000 in
theorem f_M_fails_13 (sp : pm_I → List Value → pm_S → pm_O → Prop) (d N : Nat)   (S : pm_S)  (r : (Int32 × pm_S)) (h : F_M_fails_13 N   S = some r) : pmE pG (pm_rel pG sp (d + 0)) mi_M_fails 13 [none, none] [] S (some (.int r.1), r.2) := by
  unfold F_M_fails_13 at h
  refine pE_jump 1 (pc' := 14) (ls' := [none, none]) (st' := [.int 0]) (fun _ => rfl) ?_
  cases h
  exact pE_ret rfl rfl rfl
def F_M_fails (N : Nat) (S : pm_S) (a : Nat) (p0 : Int32) : Option (Int32 × pm_S) :=
    if rcv S a 11 = true then
    ((oI S a 11 4).bind fun v1 =>
    if v1 = (-1) then
    ((wF S a 11 4 .int (.int p0)).bind fun S2 =>
    F_M_fails_13 N S2)
    else
    F_M_fails_13 N S)
    else none
theorem g_M_fails {N : Nat} {S : pm_S} {a : Nat} {p0 : Int32} {r : (Int32 × pm_S)} (h : F_M_fails N S a p0 = some r) : rcv S a 11 = true := by
  unfold F_M_fails at h
  by_cases c : rcv S a 11 = true
  · exact c
  · rw [if_neg c] at h; cases h
set_option maxHeartbeats 4000000 in
set_option maxRecDepth 20000 in
theorem f_M_fails (sp : pm_I → List Value → pm_S → pm_O → Prop) (d N : Nat) (S : pm_S) (a : Nat) (p0 : Int32) (r : (Int32 × pm_S)) (h : F_M_fails N S a p0 = some r) : pm_rel pG sp (d + 1) mi_M_fails [.ref a, .int p0] S (some (.int r.1), r.2) := by
  have hg := g_M_fails h
  unfold F_M_fails at h
  rw [if_pos hg] at h
  refine pE_rel (d := d + 0) ?_
  show pmE pG _ mi_M_fails 0 [some (.ref a), some (.int p0)] [] S _
  refine pE_jump 1 (pc' := 1) (ls' := [some (.ref a), some (.int p0)]) (st' := [.ref a]) (fun _ => rfl) ?_
  obtain ⟨v1, hv1, h⟩ := obind h
  refine pE_gfI rfl rfl hv1 ?_
  refine pE_jump 1 (pc' := 5) (ls' := [some (.ref a), some (.int p0)]) (st' := [.int (-1), .int v1]) (fun _ => rfl) ?_
  refine pE_br (¬ v1 = (-1)) rfl rfl (fun c3 => ?_) (fun c3 => ?_)
  · rw [if_neg c3] at h
    refine pE_weak [none, none] trivial ?_
    exact f_M_fails_13 sp d N S _ h
  · have c3 := Decidable.not_not.mp c3
    rw [if_pos c3] at h
    refine pE_jump 2 (pc' := 10) (ls' := [some (.ref a), some (.int p0)]) (st' := [.int p0, .ref a]) (fun _ => rfl) ?_
    obtain ⟨S2, hS2, h⟩ := obind h
    refine pE_pf rfl rfl rfl hS2 ?_
    refine pE_weak [none, none] trivial ?_
    exact f_M_fails_13 sp d N S2 _ h
def F_M_isDigit_23 (N : Nat)  (t0 : Int32) (S : pm_S) : Option (Int32 × pm_S) :=
    if t0 = 0 ∨ t0 = 1 then some (t0, S) else none
set_option maxHeartbeats 4000000 in
set_option maxRecDepth 20000 in
theorem f_M_isDigit_23 (sp : pm_I → List Value → pm_S → pm_O → Prop) (d N : Nat)  (t0 : Int32) (S : pm_S)  (r : (Int32 × pm_S)) (h : F_M_isDigit_23 N  t0 S = some r) : pmE pG (pm_rel pG sp (d + 1)) mi_M_isDigit 23 [none] [.int t0] S (some (.int r.1), r.2) := by
  unfold F_M_isDigit_23 at h
  by_cases c3 : t0 = 0 ∨ t0 = 1
  · rw [if_pos c3] at h
    cases h
    exact pE_ret rfl (if_pos c3) rfl
  · rw [if_neg c3] at h
    cases h
def F_M_isDigit_22 (N : Nat)   (S : pm_S) : Option (Int32 × pm_S) :=
    F_M_isDigit_23 N 0 S
set_option maxHeartbeats 4000000 in
set_option maxRecDepth 20000 in
theorem f_M_isDigit_22 (sp : pm_I → List Value → pm_S → pm_O → Prop) (d N : Nat)   (S : pm_S)  (r : (Int32 × pm_S)) (h : F_M_isDigit_22 N   S = some r) : pmE pG (pm_rel pG sp (d + 1)) mi_M_isDigit 22 [none] [] S (some (.int r.1), r.2) := by
  unfold F_M_isDigit_22 at h
  refine pE_jump 1 (pc' := 23) (ls' := [none]) (st' := [.int 0]) (fun _ => rfl) ?_
  exact f_M_isDigit_23 sp d N 0 S _ h
def F_M_isDigit (N : Nat) (S : pm_S) (a : Nat) : Option (Int32 × pm_S) :=
    if rcv S a 11 = true then
    ((F_M_here N S a).bind fun (v2, S1) =>
    if v2 < 48 then
    F_M_isDigit_22 N S1
    else
    ((F_M_here N S1 a).bind fun (v5, S4) =>
    if 57 < v5 then
    F_M_isDigit_22 N S4
    else
    F_M_isDigit_23 N 1 S4))
    else none
theorem g_M_isDigit {N : Nat} {S : pm_S} {a : Nat} {r : (Int32 × pm_S)} (h : F_M_isDigit N S a = some r) : rcv S a 11 = true := by
  unfold F_M_isDigit at h
  by_cases c : rcv S a 11 = true
  · exact c
  · rw [if_neg c] at h; cases h
set_option maxHeartbeats 4000000 in
set_option maxRecDepth 20000 in
theorem f_M_isDigit (sp : pm_I → List Value → pm_S → pm_O → Prop) (d N : Nat) (S : pm_S) (a : Nat) (r : (Int32 × pm_S)) (h : F_M_isDigit N S a = some r) : pm_rel pG sp (d + 2) mi_M_isDigit [.ref a] S (some (.int r.1), r.2) := by
  have hg := g_M_isDigit h
  unfold F_M_isDigit at h
  rw [if_pos hg] at h
  refine pE_rel (d := d + 1) ?_
  show pmE pG _ mi_M_isDigit 0 [some (.ref a)] [] S _
  refine pE_jump 1 (pc' := 1) (ls' := [some (.ref a)]) (st' := [.ref a]) (fun _ => rfl) ?_
  obtain ⟨⟨v2, S1⟩, hv2, h⟩ := obind h
  try dsimp only at h
  refine pE_iv (Bs := []) (st := []) 1 rfl (Or.inl ⟨rfl, rfl⟩) rfl rfl (Nat.le_of_ble_eq_true rfl) (Nat.le_of_ble_eq_true rfl) (g_M_here hv2) (f_M_here sp d N S a _ hv2) ?_
  refine pE_jump 1 (pc' := 6) (ls' := [some (.ref a)]) (st' := [.int 48, .int v2]) (fun _ => rfl) ?_
  refine pE_br (v2 < 48) rfl rfl (fun c7 => ?_) (fun c7 => ?_)
  · rw [if_pos c7] at h
    refine pE_weak [none] trivial ?_
    exact f_M_isDigit_22 sp d N S1 _ h
  · rw [if_neg c7] at h
    refine pE_jump 1 (pc' := 10) (ls' := [some (.ref a)]) (st' := [.ref a]) (fun _ => rfl) ?_
    obtain ⟨⟨v5, S4⟩, hv5, h⟩ := obind h
    try dsimp only at h
    refine pE_iv (Bs := []) (st := []) 1 rfl (Or.inl ⟨rfl, rfl⟩) rfl rfl (Nat.le_of_ble_eq_true rfl) (Nat.le_of_ble_eq_true rfl) (g_M_here hv5) (f_M_here sp d N S1 a _ hv5) ?_
    refine pE_jump 1 (pc' := 15) (ls' := [some (.ref a)]) (st' := [.int 57, .int v5]) (fun _ => rfl) ?_
    refine pE_br (57 < v5) rfl rfl (fun c6 => ?_) (fun c6 => ?_)
    · rw [if_pos c6] at h
      refine pE_weak [none] trivial ?_
      exact f_M_isDigit_22 sp d N S4 _ h
    · rw [if_neg c6] at h
      refine pE_jump 2 (pc' := 23) (ls' := [some (.ref a)]) (st' := [.int 1]) (fun _ => rfl) ?_
      refine pE_weak [none] trivial ?_
      exact f_M_isDigit_23 sp d N 1 S4 _ h
def F_M_isIn_15 (N : Nat)  (t0 : Int32) (S : pm_S) : Option (Int32 × pm_S) :=
    if t0 = 0 ∨ t0 = 1 then some (t0, S) else none
set_option maxHeartbeats 4000000 in
set_option maxRecDepth 20000 in
theorem f_M_isIn_15 (sp : pm_I → List Value → pm_S → pm_O → Prop) (d N : Nat)  (t0 : Int32) (S : pm_S)  (r : (Int32 × pm_S)) (h : F_M_isIn_15 N  t0 S = some r) : pmE pG (pm_rel pG sp (d + 0)) mi_M_isIn 15 [none, none, none] [.int t0] S (some (.int r.1), r.2) := by
  unfold F_M_isIn_15 at h
  by_cases c1 : t0 = 0 ∨ t0 = 1
  · rw [if_pos c1] at h
    cases h
    exact pE_ret rfl (if_pos c1) rfl
  · rw [if_neg c1] at h
    cases h
def F_M_isIn_14 (N : Nat)   (S : pm_S) : Option (Int32 × pm_S) :=
    F_M_isIn_15 N 0 S
set_option maxHeartbeats 4000000 in
set_option maxRecDepth 20000 in
theorem f_M_isIn_14 (sp : pm_I → List Value → pm_S → pm_O → Prop) (d N : Nat)   (S : pm_S)  (r : (Int32 × pm_S)) (h : F_M_isIn_14 N   S = some r) : pmE pG (pm_rel pG sp (d + 0)) mi_M_isIn 14 [none, none, none] [] S (some (.int r.1), r.2) := by
  unfold F_M_isIn_14 at h
  refine pE_jump 1 (pc' := 15) (ls' := [none, none, none]) (st' := [.int 0]) (fun _ => rfl) ?_
  exact f_M_isIn_15 sp d N 0 S _ h
def F_M_isIn (N : Nat) (S : pm_S) (p0 : Int32) (p1 : Int32) (p2 : Int32) : Option (Int32 × pm_S) :=
    if p0 < p1 then
    F_M_isIn_14 N S
    else
    (if p2 < p0 then
    F_M_isIn_14 N S
    else
    F_M_isIn_15 N 1 S)
set_option maxHeartbeats 4000000 in
set_option maxRecDepth 20000 in
theorem f_M_isIn (sp : pm_I → List Value → pm_S → pm_O → Prop) (d N : Nat) (S : pm_S) (p0 : Int32) (p1 : Int32) (p2 : Int32) (r : (Int32 × pm_S)) (h : F_M_isIn N S p0 p1 p2 = some r) : pm_rel pG sp (d + 1) mi_M_isIn [.int p0, .int p1, .int p2] S (some (.int r.1), r.2) := by
  unfold F_M_isIn at h
  refine pE_rel (d := d + 0) ?_
  show pmE pG _ mi_M_isIn 0 [some (.int p0), some (.int p1), some (.int p2)] [] S _
  refine pE_jump 2 (pc' := 2) (ls' := [some (.int p0), some (.int p1), some (.int p2)]) (st' := [.int p1, .int p0]) (fun _ => rfl) ?_
  refine pE_br (p0 < p1) rfl rfl (fun c3 => ?_) (fun c3 => ?_)
  · rw [if_pos c3] at h
    refine pE_weak [none, none, none] trivial ?_
    exact f_M_isIn_14 sp d N S _ h
  · rw [if_neg c3] at h
    refine pE_jump 2 (pc' := 7) (ls' := [some (.int p0), some (.int p1), some (.int p2)]) (st' := [.int p2, .int p0]) (fun _ => rfl) ?_
    refine pE_br (p2 < p0) rfl rfl (fun c2 => ?_) (fun c2 => ?_)
    · rw [if_pos c2] at h
      refine pE_weak [none, none, none] trivial ?_
      exact f_M_isIn_14 sp d N S _ h
    · rw [if_neg c2] at h
      refine pE_jump 2 (pc' := 15) (ls' := [some (.int p0), some (.int p1), some (.int p2)]) (st' := [.int 1]) (fun _ => rfl) ?_
      refine pE_weak [none, none, none] trivial ?_
      exact f_M_isIn_15 sp d N 1 S _ h
def F_M_comesTo_35 (N : Nat)   (S : pm_S) : Option (Int32 × pm_S) :=
    some ((-1), S)
set_option maxHeartbeats 4000000 in
set_option maxRecDepth 20000 in
theorem f_M_comesTo_35 (sp : pm_I → List Value → pm_S → pm_O → Prop) (d N : Nat)   (S : pm_S)  (r : (Int32 × pm_S)) (h : F_M_comesTo_35 N   S = some r) : pmE pG (pm_rel pG sp (d + 0)) mi_M_comesTo 35 [none, none, none, none] [] S (some (.int r.1), r.2) := by
  unfold F_M_comesTo_35 at h
  refine pE_jump 1 (pc' := 36) (ls' := [none, none, none, none]) (st' := [.int (-1)]) (fun _ => rfl) ?_
  cases h
  exact pE_ret rfl rfl rfl
def F_M_comesTo_27 (N : Nat)  (x3 : Int32) (S : pm_S) : Option (Int32 × pm_S) :=
    some (x3, S)
set_option maxHeartbeats 4000000 in
set_option maxRecDepth 20000 in
theorem f_M_comesTo_27 (sp : pm_I → List Value → pm_S → pm_O → Prop) (d N : Nat)  (x3 : Int32) (S : pm_S)  (r : (Int32 × pm_S)) (h : F_M_comesTo_27 N  x3 S = some r) : pmE pG (pm_rel pG sp (d + 0)) mi_M_comesTo 27 [none, none, none, some (.int x3)] [] S (some (.int r.1), r.2) := by
  unfold F_M_comesTo_27 at h
  refine pE_jump 1 (pc' := 28) (ls' := [none, none, none, some (.int x3)]) (st' := [.int x3]) (fun _ => rfl) ?_
  cases h
  exact pE_ret rfl rfl rfl
def B_M_comesTo_2 (N : Nat)  (rec2 : Int32 → pm_S → Option (Int32 × pm_S)) (x0 : Nat) (x1 : Int32) (x2 : Int32) (x3 : Int32) (S : pm_S) : Option (Int32 × pm_S) :=
    (oR S x0 11 7).bind fun oq1 => match oq1 with
    | none => none
    | some q1 =>
    (aI [0, 6] S q1 x1).bind fun v2 =>
    if v2 ≤ x3 then
    F_M_comesTo_35 N S
    else
    ((oR S x0 11 9).bind fun oq3 => match oq3 with
    | none => none
    | some q3 =>
    (aI [0, 6] S q3 ((7 * x1) + x3)).bind fun v4 =>
    if v4 = x2 then
    F_M_comesTo_27 N x3 S
    else
    rec2 (x3 + 1) S)
def F_M_comesTo_2 (N : Nat)  (x0 : Nat) (x1 : Int32) (x2 : Int32) : Nat → Int32 → pm_S → Option (Int32 × pm_S)
  | 0 => fun _ _ => none
  | n + 1 => fun x3 S => B_M_comesTo_2 N  (F_M_comesTo_2 N  x0 x1 x2 n) x0 x1 x2 x3 S
set_option maxHeartbeats 4000000 in
set_option maxRecDepth 20000 in
theorem f_M_comesTo_2 (sp : pm_I → List Value → pm_S → pm_O → Prop) (d N : Nat)  (x0 : Nat) (x1 : Int32) (x2 : Int32)  : ∀ (n : Nat) (x3 : Int32) (S : pm_S) (r : (Int32 × pm_S)), F_M_comesTo_2 N  x0 x1 x2 n x3 S = some r → pmE pG (pm_rel pG sp (d + 0)) mi_M_comesTo 2 [some (.ref x0), some (.int x1), some (.int x2), some (.int x3)] [] S (some (.int r.1), r.2) := by
  intro n
  induction n with
  | zero =>
    intro x3 S r h
    cases h
  | succ n ih =>
    intro x3 S r h
    replace h : B_M_comesTo_2 N  (F_M_comesTo_2 N  x0 x1 x2 n) x0 x1 x2 x3 S = some r := h
    have hrec2 := ih
    generalize F_M_comesTo_2 N  x0 x1 x2 n = rec2 at h hrec2
    unfold B_M_comesTo_2 at h
    refine pE_jump 2 (pc' := 4) (ls' := [some (.ref x0), some (.int x1), some (.int x2), some (.int x3)]) (st' := [.ref x0, .int x3]) (fun _ => rfl) ?_
    obtain ⟨oq1, hq1, h⟩ := obind h
    cases oq1 with
    | none => cases h
    | some q1 =>
      try dsimp only at h
      refine pE_gfS rfl rfl hq1 ?_
      refine pE_jump 1 (pc' := 8) (ls' := [some (.ref x0), some (.int x1), some (.int x2), some (.int x3)]) (st' := [.int x1, .ref q1, .int x3]) (fun _ => rfl) ?_
      obtain ⟨v2, hv2, h⟩ := obind h
      refine pE_aI rfl rfl hv2 ?_
      refine pE_br (v2 ≤ x3) rfl rfl (fun c6 => ?_) (fun c6 => ?_)
      · rw [if_pos c6] at h
        refine pE_weak [none, none, none, none] trivial ?_
        exact f_M_comesTo_35 sp d N S _ h
      · rw [if_neg c6] at h
        refine pE_jump 1 (pc' := 13) (ls' := [some (.ref x0), some (.int x1), some (.int x2), some (.int x3)]) (st' := [.ref x0]) (fun _ => rfl) ?_
        obtain ⟨oq3, hq3, h⟩ := obind h
        cases oq3 with
        | none => cases h
        | some q3 =>
          try dsimp only at h
          refine pE_gfS rfl rfl hq3 ?_
          refine pE_jump 5 (pc' := 22) (ls' := [some (.ref x0), some (.int x1), some (.int x2), some (.int x3)]) (st' := [.int ((7 * x1) + x3), .ref q3]) (fun _ => rfl) ?_
          obtain ⟨v4, hv4, h⟩ := obind h
          refine pE_aI rfl rfl hv4 ?_
          refine pE_jump 1 (pc' := 24) (ls' := [some (.ref x0), some (.int x1), some (.int x2), some (.int x3)]) (st' := [.int x2, .int v4]) (fun _ => rfl) ?_
          refine pE_br (¬ v4 = x2) rfl rfl (fun c5 => ?_) (fun c5 => ?_)
          · rw [if_neg c5] at h
            refine pE_jump 2 (pc' := 2) (ls' := [some (.ref x0), some (.int x1), some (.int x2), some (.int (x3 + 1))]) (st' := []) (fun _ => rfl) ?_
            exact hrec2 (x3 + 1) S _ h
          · have c5 := Decidable.not_not.mp c5
            rw [if_pos c5] at h
            refine pE_weak [none, none, none, some (.int x3)] ⟨rfl, trivial⟩ ?_
            exact f_M_comesTo_27 sp d N x3 S _ h
def F_M_comesTo (N : Nat) (S : pm_S) (a : Nat) (p0 : Int32) (p1 : Int32) : Option (Int32 × pm_S) :=
    if rcv S a 11 = true then
    (F_M_comesTo_2 N a p0 p1 N 0 S)
    else none
theorem g_M_comesTo {N : Nat} {S : pm_S} {a : Nat} {p0 : Int32} {p1 : Int32} {r : (Int32 × pm_S)} (h : F_M_comesTo N S a p0 p1 = some r) : rcv S a 11 = true := by
  unfold F_M_comesTo at h
  by_cases c : rcv S a 11 = true
  · exact c
  · rw [if_neg c] at h; cases h
set_option maxHeartbeats 4000000 in
set_option maxRecDepth 20000 in
theorem f_M_comesTo (sp : pm_I → List Value → pm_S → pm_O → Prop) (d N : Nat) (S : pm_S) (a : Nat) (p0 : Int32) (p1 : Int32) (r : (Int32 × pm_S)) (h : F_M_comesTo N S a p0 p1 = some r) : pm_rel pG sp (d + 1) mi_M_comesTo [.ref a, .int p0, .int p1] S (some (.int r.1), r.2) := by
  have hg := g_M_comesTo h
  unfold F_M_comesTo at h
  rw [if_pos hg] at h
  refine pE_rel (d := d + 0) ?_
  show pmE pG _ mi_M_comesTo 0 [some (.ref a), some (.int p0), some (.int p1), none] [] S _
  refine pE_jump 2 (pc' := 2) (ls' := [some (.ref a), some (.int p0), some (.int p1), some (.int 0)]) (st' := []) (fun _ => rfl) ?_
  exact f_M_comesTo_2 sp d N a p0 p1 N 0 S _ h
def F_M_number_163 (N : Nat)  (x0 : Nat) (S : pm_S) : Option (Int32 × pm_S) :=
    (oI S x0 11 3).bind fun v21 =>
    (F_M_fails N S x0 (v21 - 1)).bind fun (v23, S22) =>
    if v23 = 0 ∨ v23 = 1 then some (v23, S22) else none
set_option maxHeartbeats 4000000 in
set_option maxRecDepth 20000 in
theorem f_M_number_163 (sp : pm_I → List Value → pm_S → pm_O → Prop) (d N : Nat)  (x0 : Nat) (S : pm_S)  (r : (Int32 × pm_S)) (h : F_M_number_163 N  x0 S = some r) : pmE pG (pm_rel pG sp (d + 2)) mi_M_number 163 [some (.ref x0), none, none, none, none, none] [] S (some (.int r.1), r.2) := by
  unfold F_M_number_163 at h
  refine pE_jump 2 (pc' := 165) (ls' := [some (.ref x0), none, none, none, none, none]) (st' := [.ref x0, .ref x0]) (fun _ => rfl) ?_
  obtain ⟨v21, hv21, h⟩ := obind h
  refine pE_gfI rfl rfl hv21 ?_
  refine pE_jump 2 (pc' := 170) (ls' := [some (.ref x0), none, none, none, none, none]) (st' := [.int (v21 - 1), .ref x0]) (fun _ => rfl) ?_
  obtain ⟨⟨v23, S22⟩, hv23, h⟩ := obind h
  try dsimp only at h
  refine pE_iv (Bs := [.int (v21 - 1)]) (st := []) 1 rfl (Or.inl ⟨rfl, rfl⟩) rfl rfl (Nat.le_of_ble_eq_true rfl) (Nat.le_of_ble_eq_true rfl) (g_M_fails hv23) (f_M_fails sp (d + 1) N S x0 (v21 - 1) _ hv23) ?_
  by_cases c24 : v23 = 0 ∨ v23 = 1
  · rw [if_pos c24] at h
    cases h
    exact pE_ret rfl (if_pos c24) rfl
  · rw [if_neg c24] at h
    cases h
def F_M_number_197 (N : Nat)  (t0 : Int32) (S : pm_S) : Option (Int32 × pm_S) :=
    if t0 = 0 ∨ t0 = 1 then some (t0, S) else none
set_option maxHeartbeats 4000000 in
set_option maxRecDepth 20000 in
theorem f_M_number_197 (sp : pm_I → List Value → pm_S → pm_O → Prop) (d N : Nat)  (t0 : Int32) (S : pm_S)  (r : (Int32 × pm_S)) (h : F_M_number_197 N  t0 S = some r) : pmE pG (pm_rel pG sp (d + 2)) mi_M_number 197 [none, none, none, none, none, none] [.int t0] S (some (.int r.1), r.2) := by
  unfold F_M_number_197 at h
  by_cases c36 : t0 = 0 ∨ t0 = 1
  · rw [if_pos c36] at h
    cases h
    exact pE_ret rfl (if_pos c36) rfl
  · rw [if_neg c36] at h
    cases h
def F_M_number_192 (N : Nat)   (S : pm_S) : Option (Int32 × pm_S) :=
    F_M_number_197 N 1 S
set_option maxHeartbeats 4000000 in
set_option maxRecDepth 20000 in
theorem f_M_number_192 (sp : pm_I → List Value → pm_S → pm_O → Prop) (d N : Nat)   (S : pm_S)  (r : (Int32 × pm_S)) (h : F_M_number_192 N   S = some r) : pmE pG (pm_rel pG sp (d + 2)) mi_M_number 192 [none, none, none, none, none, none] [] S (some (.int r.1), r.2) := by
  unfold F_M_number_192 at h
  refine pE_jump 2 (pc' := 197) (ls' := [none, none, none, none, none, none]) (st' := [.int 1]) (fun _ => rfl) ?_
  exact f_M_number_197 sp d N 1 S _ h
def F_M_number_174 (N : Nat)  (x0 : Nat) (S : pm_S) : Option (Int32 × pm_S) :=
    (F_M_isDigit N S x0).bind fun (v35, S34) =>
    if v35 = 0 then
    F_M_number_192 N S34
    else
    ((oI S34 x0 11 3).bind fun v37 =>
    (F_M_fails N S34 x0 v37).bind fun (v39, S38) =>
    if v39 = 0 then
    F_M_number_197 N 0 S38
    else
    F_M_number_192 N S38)
set_option maxHeartbeats 4000000 in
set_option maxRecDepth 20000 in
theorem f_M_number_174 (sp : pm_I → List Value → pm_S → pm_O → Prop) (d N : Nat)  (x0 : Nat) (S : pm_S)  (r : (Int32 × pm_S)) (h : F_M_number_174 N  x0 S = some r) : pmE pG (pm_rel pG sp (d + 2)) mi_M_number 174 [some (.ref x0), none, none, none, none, none] [] S (some (.int r.1), r.2) := by
  unfold F_M_number_174 at h
  refine pE_jump 1 (pc' := 175) (ls' := [some (.ref x0), none, none, none, none, none]) (st' := [.ref x0]) (fun _ => rfl) ?_
  obtain ⟨⟨v35, S34⟩, hv35, h⟩ := obind h
  try dsimp only at h
  refine pE_iv (Bs := []) (st := []) 1 rfl (Or.inl ⟨rfl, rfl⟩) rfl rfl (Nat.le_of_ble_eq_true rfl) (Nat.le_of_ble_eq_true rfl) (g_M_isDigit hv35) (f_M_isDigit sp d N S x0 _ hv35) ?_
  refine pE_br (v35 = 0) rfl rfl (fun c41 => ?_) (fun c41 => ?_)
  · rw [if_pos c41] at h
    refine pE_weak [none, none, none, none, none, none] trivial ?_
    exact f_M_number_192 sp d N S34 _ h
  · rw [if_neg c41] at h
    refine pE_jump 2 (pc' := 183) (ls' := [some (.ref x0), none, none, none, none, none]) (st' := [.ref x0, .ref x0]) (fun _ => rfl) ?_
    obtain ⟨v37, hv37, h⟩ := obind h
    refine pE_gfI rfl rfl hv37 ?_
    obtain ⟨⟨v39, S38⟩, hv39, h⟩ := obind h
    try dsimp only at h
    refine pE_iv (Bs := [.int v37]) (st := []) 1 rfl (Or.inl ⟨rfl, rfl⟩) rfl rfl (Nat.le_of_ble_eq_true rfl) (Nat.le_of_ble_eq_true rfl) (g_M_fails hv39) (f_M_fails sp (d + 1) N S34 x0 v37 _ hv39) ?_
    refine pE_br (v39 = 0) rfl rfl (fun c40 => ?_) (fun c40 => ?_)
    · rw [if_pos c40] at h
      refine pE_jump 1 (pc' := 197) (ls' := [some (.ref x0), none, none, none, none, none]) (st' := [.int 0]) (fun _ => rfl) ?_
      refine pE_weak [none, none, none, none, none, none] trivial ?_
      exact f_M_number_197 sp d N 0 S38 _ h
    · rw [if_neg c40] at h
      refine pE_weak [none, none, none, none, none, none] trivial ?_
      exact f_M_number_192 sp d N S38 _ h
def F_M_number_127 (N : Nat)  (x0 : Nat) (x3 : Int32) (x4 : Int32) (x5 : Int32) (S : pm_S) : Option (Int32 × pm_S) :=
    if x3 = 2 then
    ((oR S x0 11 8).bind fun oq28 => match oq28 with
    | none => none
    | some q28 =>
    (oI S x0 11 5).bind fun v30 =>
    (aI [0, 6] S q28 ((7 * x4) + v30)).bind fun v31 =>
    (oR S x0 11 9).bind fun oq32 => match oq32 with
    | none => none
    | some q32 =>
    (aI [0, 6] S q32 ((7 * x4) + x5)).bind fun v33 =>
    if v31 = v33 then
    F_M_number_174 N x0 S
    else
    F_M_number_163 N x0 S)
    else
    F_M_number_174 N x0 S
set_option maxHeartbeats 4000000 in
set_option maxRecDepth 20000 in
theorem f_M_number_127 (sp : pm_I → List Value → pm_S → pm_O → Prop) (d N : Nat)  (x0 : Nat) (x3 : Int32) (x4 : Int32) (x5 : Int32) (S : pm_S)  (r : (Int32 × pm_S)) (h : F_M_number_127 N  x0 x3 x4 x5 S = some r) : pmE pG (pm_rel pG sp (d + 2)) mi_M_number 127 [some (.ref x0), none, none, some (.int x3), some (.int x4), some (.int x5)] [] S (some (.int r.1), r.2) := by
  unfold F_M_number_127 at h
  refine pE_jump 2 (pc' := 129) (ls' := [some (.ref x0), none, none, some (.int x3), some (.int x4), some (.int x5)]) (st' := [.int 2, .int x3]) (fun _ => rfl) ?_
  refine pE_br (¬ x3 = 2) rfl rfl (fun c43 => ?_) (fun c43 => ?_)
  · rw [if_neg c43] at h
    refine pE_weak [some (.ref x0), none, none, none, none, none] ⟨rfl, trivial⟩ ?_
    exact f_M_number_174 sp d N x0 S _ h
  · have c43 := Decidable.not_not.mp c43
    rw [if_pos c43] at h
    refine pE_jump 1 (pc' := 133) (ls' := [some (.ref x0), none, none, some (.int x3), some (.int x4), some (.int x5)]) (st' := [.ref x0]) (fun _ => rfl) ?_
    obtain ⟨oq28, hq28, h⟩ := obind h
    cases oq28 with
    | none => cases h
    | some q28 =>
      try dsimp only at h
      refine pE_gfS rfl rfl hq28 ?_
      refine pE_jump 4 (pc' := 142) (ls' := [some (.ref x0), none, none, some (.int x3), some (.int x4), some (.int x5)]) (st' := [.ref x0, .int (7 * x4), .ref q28]) (fun _ => rfl) ?_
      obtain ⟨v30, hv30, h⟩ := obind h
      refine pE_gfI rfl rfl hv30 ?_
      refine pE_jump 1 (pc' := 146) (ls' := [some (.ref x0), none, none, some (.int x3), some (.int x4), some (.int x5)]) (st' := [.int ((7 * x4) + v30), .ref q28]) (fun _ => rfl) ?_
      obtain ⟨v31, hv31, h⟩ := obind h
      refine pE_aI rfl rfl hv31 ?_
      refine pE_jump 1 (pc' := 148) (ls' := [some (.ref x0), none, none, some (.int x3), some (.int x4), some (.int x5)]) (st' := [.ref x0, .int v31]) (fun _ => rfl) ?_
      obtain ⟨oq32, hq32, h⟩ := obind h
      cases oq32 with
      | none => cases h
      | some q32 =>
        try dsimp only at h
        refine pE_gfS rfl rfl hq32 ?_
        refine pE_jump 5 (pc' := 159) (ls' := [some (.ref x0), none, none, some (.int x3), some (.int x4), some (.int x5)]) (st' := [.int ((7 * x4) + x5), .ref q32, .int v31]) (fun _ => rfl) ?_
        obtain ⟨v33, hv33, h⟩ := obind h
        refine pE_aI rfl rfl hv33 ?_
        refine pE_br (v31 = v33) rfl rfl (fun c42 => ?_) (fun c42 => ?_)
        · rw [if_pos c42] at h
          refine pE_weak [some (.ref x0), none, none, none, none, none] ⟨rfl, trivial⟩ ?_
          exact f_M_number_174 sp d N x0 S _ h
        · rw [if_neg c42] at h
          refine pE_weak [some (.ref x0), none, none, none, none, none] ⟨rfl, trivial⟩ ?_
          exact f_M_number_163 sp d N x0 S _ h
def F_M_number_96 (N : Nat)  (x0 : Nat) (x1 : Int32) (x2 : Int32) (x3 : Int32) (x4 : Int32) (x5 : Int32) (S : pm_S) : Option (Int32 × pm_S) :=
    (oI S x0 11 5).bind fun v18 =>
    (F_M_isIn N S v18 x1 x2).bind fun (v20, S19) =>
    if v20 = 0 then
    F_M_number_163 N x0 S19
    else
    (if x3 = 1 then
    ((oI S19 x0 11 5).bind fun v25 =>
    (F_M_comesTo N S19 x0 x4 v25).bind fun (v27, S26) =>
    if v27 = (-1) then
    F_M_number_127 N x0 x3 x4 x5 S26
    else
    F_M_number_163 N x0 S26)
    else
    F_M_number_127 N x0 x3 x4 x5 S19)
set_option maxHeartbeats 4000000 in
set_option maxRecDepth 20000 in
theorem f_M_number_96 (sp : pm_I → List Value → pm_S → pm_O → Prop) (d N : Nat)  (x0 : Nat) (x1 : Int32) (x2 : Int32) (x3 : Int32) (x4 : Int32) (x5 : Int32) (S : pm_S)  (r : (Int32 × pm_S)) (h : F_M_number_96 N  x0 x1 x2 x3 x4 x5 S = some r) : pmE pG (pm_rel pG sp (d + 2)) mi_M_number 96 [some (.ref x0), some (.int x1), some (.int x2), some (.int x3), some (.int x4), some (.int x5)] [] S (some (.int r.1), r.2) := by
  unfold F_M_number_96 at h
  refine pE_jump 1 (pc' := 97) (ls' := [some (.ref x0), some (.int x1), some (.int x2), some (.int x3), some (.int x4), some (.int x5)]) (st' := [.ref x0]) (fun _ => rfl) ?_
  obtain ⟨v18, hv18, h⟩ := obind h
  refine pE_gfI rfl rfl hv18 ?_
  refine pE_jump 2 (pc' := 102) (ls' := [some (.ref x0), some (.int x1), some (.int x2), some (.int x3), some (.int x4), some (.int x5)]) (st' := [.int x2, .int x1, .int v18]) (fun _ => rfl) ?_
  obtain ⟨⟨v20, S19⟩, hv20, h⟩ := obind h
  try dsimp only at h
  refine pE_is (Bs := [.int v18, .int x1, .int x2]) (st := []) rfl rfl rfl (Nat.le_of_ble_eq_true rfl) (Nat.le_of_ble_eq_true rfl) (f_M_isIn sp (d + 1) N S v18 x1 x2 _ hv20) ?_
  refine pE_br (v20 = 0) rfl rfl (fun c46 => ?_) (fun c46 => ?_)
  · rw [if_pos c46] at h
    refine pE_weak [some (.ref x0), none, none, none, none, none] ⟨rfl, trivial⟩ ?_
    exact f_M_number_163 sp d N x0 S19 _ h
  · rw [if_neg c46] at h
    refine pE_jump 2 (pc' := 110) (ls' := [some (.ref x0), some (.int x1), some (.int x2), some (.int x3), some (.int x4), some (.int x5)]) (st' := [.int 1, .int x3]) (fun _ => rfl) ?_
    refine pE_br (¬ x3 = 1) rfl rfl (fun c45 => ?_) (fun c45 => ?_)
    · rw [if_neg c45] at h
      refine pE_weak [some (.ref x0), none, none, some (.int x3), some (.int x4), some (.int x5)] ⟨rfl, ⟨rfl, ⟨rfl, ⟨rfl, trivial⟩⟩⟩⟩ ?_
      exact f_M_number_127 sp d N x0 x3 x4 x5 S19 _ h
    · have c45 := Decidable.not_not.mp c45
      rw [if_pos c45] at h
      refine pE_jump 3 (pc' := 117) (ls' := [some (.ref x0), some (.int x1), some (.int x2), some (.int x3), some (.int x4), some (.int x5)]) (st' := [.ref x0, .int x4, .ref x0]) (fun _ => rfl) ?_
      obtain ⟨v25, hv25, h⟩ := obind h
      refine pE_gfI rfl rfl hv25 ?_
      obtain ⟨⟨v27, S26⟩, hv27, h⟩ := obind h
      try dsimp only at h
      refine pE_iv (Bs := [.int x4, .int v25]) (st := []) 1 rfl (Or.inl ⟨rfl, rfl⟩) rfl rfl (Nat.le_of_ble_eq_true rfl) (Nat.le_of_ble_eq_true rfl) (g_M_comesTo hv27) (f_M_comesTo sp (d + 1) N S19 x0 x4 v25 _ hv27) ?_
      refine pE_jump 1 (pc' := 124) (ls' := [some (.ref x0), some (.int x1), some (.int x2), some (.int x3), some (.int x4), some (.int x5)]) (st' := [.int (-1), .int v27]) (fun _ => rfl) ?_
      refine pE_br (¬ v27 = (-1)) rfl rfl (fun c44 => ?_) (fun c44 => ?_)
      · rw [if_neg c44] at h
        refine pE_weak [some (.ref x0), none, none, none, none, none] ⟨rfl, trivial⟩ ?_
        exact f_M_number_163 sp d N x0 S26 _ h
      · have c44 := Decidable.not_not.mp c44
        rw [if_pos c44] at h
        refine pE_weak [some (.ref x0), none, none, some (.int x3), some (.int x4), some (.int x5)] ⟨rfl, ⟨rfl, ⟨rfl, ⟨rfl, trivial⟩⟩⟩⟩ ?_
        exact f_M_number_127 sp d N x0 x3 x4 x5 S26 _ h
def F_M_number (N : Nat) (S : pm_S) (a : Nat) (p0 : Int32) (p1 : Int32) (p2 : Int32) (p3 : Int32) (p4 : Int32) : Option (Int32 × pm_S) :=
    if rcv S a 11 = true then
    ((F_M_here N S a).bind fun (v2, S1) =>
    if v2 = 32 then
    ((F_M_look N S1 a).bind fun (v4, S3) =>
    (F_M_isDigit N S3 a).bind fun (v6, S5) =>
    if v6 = 0 then
    ((oI S5 a 11 3).bind fun v7 =>
    (F_M_fails N S5 a v7).bind fun (v9, S8) =>
    if v9 = 0 ∨ v9 = 1 then some (v9, S8) else none)
    else
    ((F_M_here N S5 a).bind fun (v12, S11) =>
    (wF S11 a 11 5 .int (.int (v12 - 48))).bind fun S13 =>
    (oI S13 a 11 3).bind fun v14 =>
    (wF S13 a 11 3 .int (.int (v14 + 1))).bind fun S15 =>
    (F_M_isDigit N S15 a).bind fun (v17, S16) =>
    if v17 = 0 then
    F_M_number_96 N a p0 p1 p2 p3 p4 S16
    else
    ((oI S16 a 11 5).bind fun v47 =>
    (F_M_here N S16 a).bind fun (v49, S48) =>
    (wF S48 a 11 5 .int (.int (((10 * v47) + v49) - 48))).bind fun S50 =>
    (oI S50 a 11 3).bind fun v51 =>
    (wF S50 a 11 3 .int (.int (v51 + 1))).bind fun S52 =>
    F_M_number_96 N a p0 p1 p2 p3 p4 S52)))
    else
    ((oI S1 a 11 3).bind fun v55 =>
    (F_M_fails N S1 a v55).bind fun (v57, S56) =>
    if v57 = 0 ∨ v57 = 1 then some (v57, S56) else none))
    else none
theorem g_M_number {N : Nat} {S : pm_S} {a : Nat} {p0 : Int32} {p1 : Int32} {p2 : Int32} {p3 : Int32} {p4 : Int32} {r : (Int32 × pm_S)} (h : F_M_number N S a p0 p1 p2 p3 p4 = some r) : rcv S a 11 = true := by
  unfold F_M_number at h
  by_cases c : rcv S a 11 = true
  · exact c
  · rw [if_neg c] at h; cases h
set_option maxHeartbeats 4000000 in
set_option maxRecDepth 20000 in
theorem f_M_number (sp : pm_I → List Value → pm_S → pm_O → Prop) (d N : Nat) (S : pm_S) (a : Nat) (p0 : Int32) (p1 : Int32) (p2 : Int32) (p3 : Int32) (p4 : Int32) (r : (Int32 × pm_S)) (h : F_M_number N S a p0 p1 p2 p3 p4 = some r) : pm_rel pG sp (d + 3) mi_M_number [.ref a, .int p0, .int p1, .int p2, .int p3, .int p4] S (some (.int r.1), r.2) := by
  have hg := g_M_number h
  unfold F_M_number at h
  rw [if_pos hg] at h
  refine pE_rel (d := d + 2) ?_
  show pmE pG _ mi_M_number 0 [some (.ref a), some (.int p0), some (.int p1), some (.int p2), some (.int p3), some (.int p4)] [] S _
  refine pE_jump 1 (pc' := 1) (ls' := [some (.ref a), some (.int p0), some (.int p1), some (.int p2), some (.int p3), some (.int p4)]) (st' := [.ref a]) (fun _ => rfl) ?_
  obtain ⟨⟨v2, S1⟩, hv2, h⟩ := obind h
  try dsimp only at h
  refine pE_iv (Bs := []) (st := []) 1 rfl (Or.inl ⟨rfl, rfl⟩) rfl rfl (Nat.le_of_ble_eq_true rfl) (Nat.le_of_ble_eq_true rfl) (g_M_here hv2) (f_M_here sp (d + 1) N S a _ hv2) ?_
  refine pE_jump 1 (pc' := 6) (ls' := [some (.ref a), some (.int p0), some (.int p1), some (.int p2), some (.int p3), some (.int p4)]) (st' := [.int 32, .int v2]) (fun _ => rfl) ?_
  refine pE_br (v2 = 32) rfl rfl (fun c59 => ?_) (fun c59 => ?_)
  · rw [if_pos c59] at h
    refine pE_jump 1 (pc' := 19) (ls' := [some (.ref a), some (.int p0), some (.int p1), some (.int p2), some (.int p3), some (.int p4)]) (st' := [.ref a]) (fun _ => rfl) ?_
    obtain ⟨⟨v4, S3⟩, hv4, h⟩ := obind h
    try dsimp only at h
    refine pE_iv (Bs := []) (st := []) 1 rfl (Or.inl ⟨rfl, rfl⟩) rfl rfl (Nat.le_of_ble_eq_true rfl) (Nat.le_of_ble_eq_true rfl) (g_M_look hv4) (f_M_look sp d N S1 a _ hv4) ?_
    refine pE_jump 2 (pc' := 24) (ls' := [some (.ref a), some (.int p0), some (.int p1), some (.int p2), some (.int p3), some (.int p4)]) (st' := [.ref a]) (fun _ => rfl) ?_
    obtain ⟨⟨v6, S5⟩, hv6, h⟩ := obind h
    try dsimp only at h
    refine pE_iv (Bs := []) (st := []) 1 rfl (Or.inl ⟨rfl, rfl⟩) rfl rfl (Nat.le_of_ble_eq_true rfl) (Nat.le_of_ble_eq_true rfl) (g_M_isDigit hv6) (f_M_isDigit sp d N S3 a _ hv6) ?_
    refine pE_br (¬ v6 = 0) rfl rfl (fun c54 => ?_) (fun c54 => ?_)
    · rw [if_neg c54] at h
      refine pE_jump 2 (pc' := 41) (ls' := [some (.ref a), some (.int p0), some (.int p1), some (.int p2), some (.int p3), some (.int p4)]) (st' := [.ref a, .ref a]) (fun _ => rfl) ?_
      obtain ⟨⟨v12, S11⟩, hv12, h⟩ := obind h
      try dsimp only at h
      refine pE_iv (Bs := []) (st := [.ref a]) 1 rfl (Or.inl ⟨rfl, rfl⟩) rfl rfl (Nat.le_of_ble_eq_true rfl) (Nat.le_of_ble_eq_true rfl) (g_M_here hv12) (f_M_here sp (d + 1) N S5 a _ hv12) ?_
      refine pE_jump 2 (pc' := 47) (ls' := [some (.ref a), some (.int p0), some (.int p1), some (.int p2), some (.int p3), some (.int p4)]) (st' := [.int (v12 - 48), .ref a]) (fun _ => rfl) ?_
      obtain ⟨S13, hS13, h⟩ := obind h
      refine pE_pf rfl rfl rfl hS13 ?_
      refine pE_jump 2 (pc' := 52) (ls' := [some (.ref a), some (.int p0), some (.int p1), some (.int p2), some (.int p3), some (.int p4)]) (st' := [.ref a, .ref a]) (fun _ => rfl) ?_
      obtain ⟨v14, hv14, h⟩ := obind h
      refine pE_gfI rfl rfl hv14 ?_
      refine pE_jump 2 (pc' := 57) (ls' := [some (.ref a), some (.int p0), some (.int p1), some (.int p2), some (.int p3), some (.int p4)]) (st' := [.int (v14 + 1), .ref a]) (fun _ => rfl) ?_
      obtain ⟨S15, hS15, h⟩ := obind h
      refine pE_pf rfl rfl rfl hS15 ?_
      refine pE_jump 1 (pc' := 61) (ls' := [some (.ref a), some (.int p0), some (.int p1), some (.int p2), some (.int p3), some (.int p4)]) (st' := [.ref a]) (fun _ => rfl) ?_
      obtain ⟨⟨v17, S16⟩, hv17, h⟩ := obind h
      try dsimp only at h
      refine pE_iv (Bs := []) (st := []) 1 rfl (Or.inl ⟨rfl, rfl⟩) rfl rfl (Nat.le_of_ble_eq_true rfl) (Nat.le_of_ble_eq_true rfl) (g_M_isDigit hv17) (f_M_isDigit sp d N S15 a _ hv17) ?_
      refine pE_br (v17 = 0) rfl rfl (fun c53 => ?_) (fun c53 => ?_)
      · rw [if_pos c53] at h
        exact f_M_number_96 sp d N a p0 p1 p2 p3 p4 S16 _ h
      · rw [if_neg c53] at h
        refine pE_jump 3 (pc' := 71) (ls' := [some (.ref a), some (.int p0), some (.int p1), some (.int p2), some (.int p3), some (.int p4)]) (st' := [.ref a, .int 10, .ref a]) (fun _ => rfl) ?_
        obtain ⟨v47, hv47, h⟩ := obind h
        refine pE_gfI rfl rfl hv47 ?_
        refine pE_jump 2 (pc' := 76) (ls' := [some (.ref a), some (.int p0), some (.int p1), some (.int p2), some (.int p3), some (.int p4)]) (st' := [.ref a, .int (10 * v47), .ref a]) (fun _ => rfl) ?_
        obtain ⟨⟨v49, S48⟩, hv49, h⟩ := obind h
        try dsimp only at h
        refine pE_iv (Bs := []) (st := [.int (10 * v47), .ref a]) 1 rfl (Or.inl ⟨rfl, rfl⟩) rfl rfl (Nat.le_of_ble_eq_true rfl) (Nat.le_of_ble_eq_true rfl) (g_M_here hv49) (f_M_here sp (d + 1) N S16 a _ hv49) ?_
        refine pE_jump 3 (pc' := 83) (ls' := [some (.ref a), some (.int p0), some (.int p1), some (.int p2), some (.int p3), some (.int p4)]) (st' := [.int (((10 * v47) + v49) - 48), .ref a]) (fun _ => rfl) ?_
        obtain ⟨S50, hS50, h⟩ := obind h
        refine pE_pf rfl rfl rfl hS50 ?_
        refine pE_jump 2 (pc' := 88) (ls' := [some (.ref a), some (.int p0), some (.int p1), some (.int p2), some (.int p3), some (.int p4)]) (st' := [.ref a, .ref a]) (fun _ => rfl) ?_
        obtain ⟨v51, hv51, h⟩ := obind h
        refine pE_gfI rfl rfl hv51 ?_
        refine pE_jump 2 (pc' := 93) (ls' := [some (.ref a), some (.int p0), some (.int p1), some (.int p2), some (.int p3), some (.int p4)]) (st' := [.int (v51 + 1), .ref a]) (fun _ => rfl) ?_
        obtain ⟨S52, hS52, h⟩ := obind h
        refine pE_pf rfl rfl rfl hS52 ?_
        exact f_M_number_96 sp d N a p0 p1 p2 p3 p4 S52 _ h
    · have c54 := Decidable.not_not.mp c54
      rw [if_pos c54] at h
      refine pE_jump 2 (pc' := 32) (ls' := [some (.ref a), some (.int p0), some (.int p1), some (.int p2), some (.int p3), some (.int p4)]) (st' := [.ref a, .ref a]) (fun _ => rfl) ?_
      obtain ⟨v7, hv7, h⟩ := obind h
      refine pE_gfI rfl rfl hv7 ?_
      obtain ⟨⟨v9, S8⟩, hv9, h⟩ := obind h
      try dsimp only at h
      refine pE_iv (Bs := [.int v7]) (st := []) 1 rfl (Or.inl ⟨rfl, rfl⟩) rfl rfl (Nat.le_of_ble_eq_true rfl) (Nat.le_of_ble_eq_true rfl) (g_M_fails hv9) (f_M_fails sp (d + 1) N S5 a v7 _ hv9) ?_
      by_cases c10 : v9 = 0 ∨ v9 = 1
      · rw [if_pos c10] at h
        cases h
        exact pE_ret rfl (if_pos c10) rfl
      · rw [if_neg c10] at h
        cases h
  · rw [if_neg c59] at h
    refine pE_jump 2 (pc' := 11) (ls' := [some (.ref a), some (.int p0), some (.int p1), some (.int p2), some (.int p3), some (.int p4)]) (st' := [.ref a, .ref a]) (fun _ => rfl) ?_
    obtain ⟨v55, hv55, h⟩ := obind h
    refine pE_gfI rfl rfl hv55 ?_
    obtain ⟨⟨v57, S56⟩, hv57, h⟩ := obind h
    try dsimp only at h
    refine pE_iv (Bs := [.int v55]) (st := []) 1 rfl (Or.inl ⟨rfl, rfl⟩) rfl rfl (Nat.le_of_ble_eq_true rfl) (Nat.le_of_ble_eq_true rfl) (g_M_fails hv57) (f_M_fails sp (d + 1) N S1 a v55 _ hv57) ?_
    by_cases c58 : v57 = 0 ∨ v57 = 1
    · rw [if_pos c58] at h
      cases h
      exact pE_ret rfl (if_pos c58) rfl
    · rw [if_neg c58] at h
      cases h
def F_M_readCable (N : Nat) (S : pm_S) (a : Nat) (p0 : Int32) : Option (Int32 × pm_S) :=
    if rcv S a 11 = true then
    ((oR S a 11 6).bind fun oq1 => match oq1 with
    | none => none
    | some q1 =>
    (aI [0, 6] S q1 p0).bind fun v2 =>
    (F_M_number N S a 0 (v2 - 1) 0 p0 0).bind fun (v4, S3) =>
    if v4 = 0 then
    some (0, S3)
    else
    ((oI S3 a 11 5).bind fun v5 =>
    (oR S3 a 11 6).bind fun oq6 => match oq6 with
    | none => none
    | some q6 =>
    (aI [0, 6] S3 q6 p0).bind fun v7 =>
    (F_M_number N S3 a (v5 + 1) (v7 - 1) 1 p0 0).bind fun (v9, S8) =>
    if v9 = 0 then
    some (0, S8)
    else
    ((oI S8 a 11 5).bind fun v10 =>
    (F_M_number N S8 a 1 6 0 p0 0).bind fun (v12, S11) =>
    if v12 = 0 then
    some (0, S11)
    else
    ((oI S11 a 11 5).bind fun v13 =>
    (F_M_number N S11 a 1 99 0 p0 0).bind fun (v15, S14) =>
    if v15 = 0 then
    some (0, S14)
    else
    ((oR S14 a 11 7).bind fun oq16 => match oq16 with
    | none => none
    | some q16 =>
    (aI [0, 6] S14 q16 p0).bind fun v17 =>
    (oR S14 a 11 8).bind fun oq18 => match oq18 with
    | none => none
    | some q18 =>
    (sI [0] S14 q18 ((7 * p0) + v17) v5).bind fun S19 =>
    (oR S19 a 11 9).bind fun oq20 => match oq20 with
    | none => none
    | some q20 =>
    (sI [0] S19 q20 ((7 * p0) + v17) v10).bind fun S21 =>
    (oR S21 a 11 10).bind fun oq22 => match oq22 with
    | none => none
    | some q22 =>
    (sI [0] S21 q22 ((7 * p0) + v17) v13).bind fun S23 =>
    (oR S23 a 11 11).bind fun oq24 => match oq24 with
    | none => none
    | some q24 =>
    (oI S23 a 11 5).bind fun v26 =>
    (sI [0] S23 q24 ((7 * p0) + v17) v26).bind fun S27 =>
    (oR S27 a 11 7).bind fun oq28 => match oq28 with
    | none => none
    | some q28 =>
    (aI [0, 6] S27 q28 p0).bind fun v29 =>
    (sI [0] S27 q28 p0 (v29 + 1)).bind fun S30 =>
    some (1, S30))))))
    else none
theorem g_M_readCable {N : Nat} {S : pm_S} {a : Nat} {p0 : Int32} {r : (Int32 × pm_S)} (h : F_M_readCable N S a p0 = some r) : rcv S a 11 = true := by
  unfold F_M_readCable at h
  by_cases c : rcv S a 11 = true
  · exact c
  · rw [if_neg c] at h; cases h
set_option maxHeartbeats 4000000 in
set_option maxRecDepth 20000 in
theorem f_M_readCable (sp : pm_I → List Value → pm_S → pm_O → Prop) (d N : Nat) (S : pm_S) (a : Nat) (p0 : Int32) (r : (Int32 × pm_S)) (h : F_M_readCable N S a p0 = some r) : pm_rel pG sp (d + 4) mi_M_readCable [.ref a, .int p0] S (some (.int r.1), r.2) := by
  have hg := g_M_readCable h
  unfold F_M_readCable at h
  rw [if_pos hg] at h
  refine pE_rel (d := d + 3) ?_
  show pmE pG _ mi_M_readCable 0 [some (.ref a), some (.int p0), none, none, none, none] [] S _
  refine pE_jump 3 (pc' := 3) (ls' := [some (.ref a), some (.int p0), none, none, none, none]) (st' := [.ref a, .int 0, .ref a]) (fun _ => rfl) ?_
  obtain ⟨oq1, hq1, h⟩ := obind h
  cases oq1 with
  | none => cases h
  | some q1 =>
    try dsimp only at h
    refine pE_gfS rfl rfl hq1 ?_
    refine pE_jump 1 (pc' := 7) (ls' := [some (.ref a), some (.int p0), none, none, none, none]) (st' := [.int p0, .ref q1, .int 0, .ref a]) (fun _ => rfl) ?_
    obtain ⟨v2, hv2, h⟩ := obind h
    refine pE_aI rfl rfl hv2 ?_
    refine pE_jump 5 (pc' := 13) (ls' := [some (.ref a), some (.int p0), none, none, none, none]) (st' := [.int 0, .int p0, .int 0, .int (v2 - 1), .int 0, .ref a]) (fun _ => rfl) ?_
    obtain ⟨⟨v4, S3⟩, hv4, h⟩ := obind h
    try dsimp only at h
    refine pE_iv (Bs := [.int 0, .int (v2 - 1), .int 0, .int p0, .int 0]) (st := []) 1 rfl (Or.inl ⟨rfl, rfl⟩) rfl rfl (Nat.le_of_ble_eq_true rfl) (Nat.le_of_ble_eq_true rfl) (g_M_number hv4) (f_M_number sp d N S a 0 (v2 - 1) 0 p0 0 _ hv4) ?_
    refine pE_br (¬ v4 = 0) rfl rfl (fun c34 => ?_) (fun c34 => ?_)
    · rw [if_neg c34] at h
      refine pE_jump 1 (pc' := 22) (ls' := [some (.ref a), some (.int p0), none, none, none, none]) (st' := [.ref a]) (fun _ => rfl) ?_
      obtain ⟨v5, hv5, h⟩ := obind h
      refine pE_gfI rfl rfl hv5 ?_
      refine pE_jump 6 (pc' := 31) (ls' := [some (.ref a), some (.int p0), some (.int v5), none, none, none]) (st' := [.ref a, .int (v5 + 1), .ref a]) (fun _ => rfl) ?_
      obtain ⟨oq6, hq6, h⟩ := obind h
      cases oq6 with
      | none => cases h
      | some q6 =>
        try dsimp only at h
        refine pE_gfS rfl rfl hq6 ?_
        refine pE_jump 1 (pc' := 35) (ls' := [some (.ref a), some (.int p0), some (.int v5), none, none, none]) (st' := [.int p0, .ref q6, .int (v5 + 1), .ref a]) (fun _ => rfl) ?_
        obtain ⟨v7, hv7, h⟩ := obind h
        refine pE_aI rfl rfl hv7 ?_
        refine pE_jump 5 (pc' := 41) (ls' := [some (.ref a), some (.int p0), some (.int v5), none, none, none]) (st' := [.int 0, .int p0, .int 1, .int (v7 - 1), .int (v5 + 1), .ref a]) (fun _ => rfl) ?_
        obtain ⟨⟨v9, S8⟩, hv9, h⟩ := obind h
        try dsimp only at h
        refine pE_iv (Bs := [.int (v5 + 1), .int (v7 - 1), .int 1, .int p0, .int 0]) (st := []) 1 rfl (Or.inl ⟨rfl, rfl⟩) rfl rfl (Nat.le_of_ble_eq_true rfl) (Nat.le_of_ble_eq_true rfl) (g_M_number hv9) (f_M_number sp d N S3 a (v5 + 1) (v7 - 1) 1 p0 0 _ hv9) ?_
        refine pE_br (¬ v9 = 0) rfl rfl (fun c33 => ?_) (fun c33 => ?_)
        · rw [if_neg c33] at h
          refine pE_jump 1 (pc' := 50) (ls' := [some (.ref a), some (.int p0), some (.int v5), none, none, none]) (st' := [.ref a]) (fun _ => rfl) ?_
          obtain ⟨v10, hv10, h⟩ := obind h
          refine pE_gfI rfl rfl hv10 ?_
          refine pE_jump 7 (pc' := 61) (ls' := [some (.ref a), some (.int p0), some (.int v5), some (.int v10), none, none]) (st' := [.int 0, .int p0, .int 0, .int 6, .int 1, .ref a]) (fun _ => rfl) ?_
          obtain ⟨⟨v12, S11⟩, hv12, h⟩ := obind h
          try dsimp only at h
          refine pE_iv (Bs := [.int 1, .int 6, .int 0, .int p0, .int 0]) (st := []) 1 rfl (Or.inl ⟨rfl, rfl⟩) rfl rfl (Nat.le_of_ble_eq_true rfl) (Nat.le_of_ble_eq_true rfl) (g_M_number hv12) (f_M_number sp d N S8 a 1 6 0 p0 0 _ hv12) ?_
          refine pE_br (¬ v12 = 0) rfl rfl (fun c32 => ?_) (fun c32 => ?_)
          · rw [if_neg c32] at h
            refine pE_jump 1 (pc' := 70) (ls' := [some (.ref a), some (.int p0), some (.int v5), some (.int v10), none, none]) (st' := [.ref a]) (fun _ => rfl) ?_
            obtain ⟨v13, hv13, h⟩ := obind h
            refine pE_gfI rfl rfl hv13 ?_
            refine pE_jump 7 (pc' := 82) (ls' := [some (.ref a), some (.int p0), some (.int v5), some (.int v10), some (.int v13), none]) (st' := [.int 0, .int p0, .int 0, .int 99, .int 1, .ref a]) (fun _ => rfl) ?_
            obtain ⟨⟨v15, S14⟩, hv15, h⟩ := obind h
            try dsimp only at h
            refine pE_iv (Bs := [.int 1, .int 99, .int 0, .int p0, .int 0]) (st := []) 1 rfl (Or.inl ⟨rfl, rfl⟩) rfl rfl (Nat.le_of_ble_eq_true rfl) (Nat.le_of_ble_eq_true rfl) (g_M_number hv15) (f_M_number sp d N S11 a 1 99 0 p0 0 _ hv15) ?_
            refine pE_br (¬ v15 = 0) rfl rfl (fun c31 => ?_) (fun c31 => ?_)
            · rw [if_neg c31] at h
              refine pE_jump 4 (pc' := 95) (ls' := [some (.ref a), some (.int p0), some (.int v5), some (.int v10), some (.int v13), none]) (st' := [.ref a, .int (7 * p0)]) (fun _ => rfl) ?_
              obtain ⟨oq16, hq16, h⟩ := obind h
              cases oq16 with
              | none => cases h
              | some q16 =>
                try dsimp only at h
                refine pE_gfS rfl rfl hq16 ?_
                refine pE_jump 1 (pc' := 99) (ls' := [some (.ref a), some (.int p0), some (.int v5), some (.int v10), some (.int v13), none]) (st' := [.int p0, .ref q16, .int (7 * p0)]) (fun _ => rfl) ?_
                obtain ⟨v17, hv17, h⟩ := obind h
                refine pE_aI rfl rfl hv17 ?_
                refine pE_jump 3 (pc' := 104) (ls' := [some (.ref a), some (.int p0), some (.int v5), some (.int v10), some (.int v13), some (.int ((7 * p0) + v17))]) (st' := [.ref a]) (fun _ => rfl) ?_
                obtain ⟨oq18, hq18, h⟩ := obind h
                cases oq18 with
                | none => cases h
                | some q18 =>
                  try dsimp only at h
                  refine pE_gfS rfl rfl hq18 ?_
                  refine pE_jump 2 (pc' := 110) (ls' := [some (.ref a), some (.int p0), some (.int v5), some (.int v10), some (.int v13), some (.int ((7 * p0) + v17))]) (st' := [.int v5, .int ((7 * p0) + v17), .ref q18]) (fun _ => rfl) ?_
                  obtain ⟨S19, hS19, h⟩ := obind h
                  refine pE_sI rfl rfl hS19 ?_
                  refine pE_jump 1 (pc' := 112) (ls' := [some (.ref a), some (.int p0), some (.int v5), some (.int v10), some (.int v13), some (.int ((7 * p0) + v17))]) (st' := [.ref a]) (fun _ => rfl) ?_
                  obtain ⟨oq20, hq20, h⟩ := obind h
                  cases oq20 with
                  | none => cases h
                  | some q20 =>
                    try dsimp only at h
                    refine pE_gfS rfl rfl hq20 ?_
                    refine pE_jump 2 (pc' := 118) (ls' := [some (.ref a), some (.int p0), some (.int v5), some (.int v10), some (.int v13), some (.int ((7 * p0) + v17))]) (st' := [.int v10, .int ((7 * p0) + v17), .ref q20]) (fun _ => rfl) ?_
                    obtain ⟨S21, hS21, h⟩ := obind h
                    refine pE_sI rfl rfl hS21 ?_
                    refine pE_jump 1 (pc' := 120) (ls' := [some (.ref a), some (.int p0), some (.int v5), some (.int v10), some (.int v13), some (.int ((7 * p0) + v17))]) (st' := [.ref a]) (fun _ => rfl) ?_
                    obtain ⟨oq22, hq22, h⟩ := obind h
                    cases oq22 with
                    | none => cases h
                    | some q22 =>
                      try dsimp only at h
                      refine pE_gfS rfl rfl hq22 ?_
                      refine pE_jump 2 (pc' := 127) (ls' := [some (.ref a), some (.int p0), some (.int v5), some (.int v10), some (.int v13), some (.int ((7 * p0) + v17))]) (st' := [.int v13, .int ((7 * p0) + v17), .ref q22]) (fun _ => rfl) ?_
                      obtain ⟨S23, hS23, h⟩ := obind h
                      refine pE_sI rfl rfl hS23 ?_
                      refine pE_jump 1 (pc' := 129) (ls' := [some (.ref a), some (.int p0), some (.int v5), some (.int v10), some (.int v13), some (.int ((7 * p0) + v17))]) (st' := [.ref a]) (fun _ => rfl) ?_
                      obtain ⟨oq24, hq24, h⟩ := obind h
                      cases oq24 with
                      | none => cases h
                      | some q24 =>
                        try dsimp only at h
                        refine pE_gfS rfl rfl hq24 ?_
                        refine pE_jump 2 (pc' := 135) (ls' := [some (.ref a), some (.int p0), some (.int v5), some (.int v10), some (.int v13), some (.int ((7 * p0) + v17))]) (st' := [.ref a, .int ((7 * p0) + v17), .ref q24]) (fun _ => rfl) ?_
                        obtain ⟨v26, hv26, h⟩ := obind h
                        refine pE_gfI rfl rfl hv26 ?_
                        obtain ⟨S27, hS27, h⟩ := obind h
                        refine pE_sI rfl rfl hS27 ?_
                        refine pE_jump 1 (pc' := 140) (ls' := [some (.ref a), some (.int p0), some (.int v5), some (.int v10), some (.int v13), some (.int ((7 * p0) + v17))]) (st' := [.ref a]) (fun _ => rfl) ?_
                        obtain ⟨oq28, hq28, h⟩ := obind h
                        cases oq28 with
                        | none => cases h
                        | some q28 =>
                          try dsimp only at h
                          refine pE_gfS rfl rfl hq28 ?_
                          refine pE_jump 2 (pc' := 145) (ls' := [some (.ref a), some (.int p0), some (.int v5), some (.int v10), some (.int v13), some (.int ((7 * p0) + v17))]) (st' := [.int p0, .ref q28, .int p0, .ref q28]) (fun _ => rfl) ?_
                          obtain ⟨v29, hv29, h⟩ := obind h
                          refine pE_aI rfl rfl hv29 ?_
                          refine pE_jump 2 (pc' := 148) (ls' := [some (.ref a), some (.int p0), some (.int v5), some (.int v10), some (.int v13), some (.int ((7 * p0) + v17))]) (st' := [.int (v29 + 1), .int p0, .ref q28]) (fun _ => rfl) ?_
                          obtain ⟨S30, hS30, h⟩ := obind h
                          refine pE_sI rfl rfl hS30 ?_
                          refine pE_jump 1 (pc' := 150) (ls' := [some (.ref a), some (.int p0), some (.int v5), some (.int v10), some (.int v13), some (.int ((7 * p0) + v17))]) (st' := [.int 1]) (fun _ => rfl) ?_
                          cases h
                          exact pE_ret rfl rfl rfl
            · have c31 := Decidable.not_not.mp c31
              rw [if_pos c31] at h
              refine pE_jump 1 (pc' := 89) (ls' := [some (.ref a), some (.int p0), some (.int v5), some (.int v10), some (.int v13), none]) (st' := [.int 0]) (fun _ => rfl) ?_
              cases h
              exact pE_ret rfl rfl rfl
          · have c32 := Decidable.not_not.mp c32
            rw [if_pos c32] at h
            refine pE_jump 1 (pc' := 68) (ls' := [some (.ref a), some (.int p0), some (.int v5), some (.int v10), none, none]) (st' := [.int 0]) (fun _ => rfl) ?_
            cases h
            exact pE_ret rfl rfl rfl
        · have c33 := Decidable.not_not.mp c33
          rw [if_pos c33] at h
          refine pE_jump 1 (pc' := 48) (ls' := [some (.ref a), some (.int p0), some (.int v5), none, none, none]) (st' := [.int 0]) (fun _ => rfl) ?_
          cases h
          exact pE_ret rfl rfl rfl
    · have c34 := Decidable.not_not.mp c34
      rw [if_pos c34] at h
      refine pE_jump 1 (pc' := 20) (ls' := [some (.ref a), some (.int p0), none, none, none, none]) (st' := [.int 0]) (fun _ => rfl) ?_
      cases h
      exact pE_ret rfl rfl rfl
def F_M_tell (N : Nat) (S : pm_S) (a : Nat) (p0 : Int32) (p1 : Int32) (p2 : Int32) (p3 : Int32) (p4 : Int32) (p5 : Int32) : Option pm_S :=
    if rcv S a 11 = true then
    ((oR S a 11 12).bind fun oq1 => match oq1 with
    | none => none
    | some q1 =>
    (aI [0, 6] S q1 p0).bind fun v2 =>
    (oR S a 11 13).bind fun oq3 => match oq3 with
    | none => none
    | some q3 =>
    (sI [0] S q3 ((60 * p0) + v2) p1).bind fun S4 =>
    (oR S4 a 11 14).bind fun oq5 => match oq5 with
    | none => none
    | some q5 =>
    (sI [0] S4 q5 ((60 * p0) + v2) p2).bind fun S6 =>
    (oR S6 a 11 15).bind fun oq7 => match oq7 with
    | none => none
    | some q7 =>
    (sI [0] S6 q7 ((60 * p0) + v2) p3).bind fun S8 =>
    (oR S8 a 11 16).bind fun oq9 => match oq9 with
    | none => none
    | some q9 =>
    (sI [0] S8 q9 ((60 * p0) + v2) p4).bind fun S10 =>
    (oR S10 a 11 17).bind fun oq11 => match oq11 with
    | none => none
    | some q11 =>
    (sI [0] S10 q11 ((60 * p0) + v2) p5).bind fun S12 =>
    (oR S12 a 11 12).bind fun oq13 => match oq13 with
    | none => none
    | some q13 =>
    (aI [0, 6] S12 q13 p0).bind fun v14 =>
    (sI [0] S12 q13 p0 (v14 + 1)).bind fun S15 =>
    some S15)
    else none
theorem g_M_tell {N : Nat} {S : pm_S} {a : Nat} {p0 : Int32} {p1 : Int32} {p2 : Int32} {p3 : Int32} {p4 : Int32} {p5 : Int32} {r : pm_S} (h : F_M_tell N S a p0 p1 p2 p3 p4 p5 = some r) : rcv S a 11 = true := by
  unfold F_M_tell at h
  by_cases c : rcv S a 11 = true
  · exact c
  · rw [if_neg c] at h; cases h
set_option maxHeartbeats 4000000 in
set_option maxRecDepth 20000 in
theorem f_M_tell (sp : pm_I → List Value → pm_S → pm_O → Prop) (d N : Nat) (S : pm_S) (a : Nat) (p0 : Int32) (p1 : Int32) (p2 : Int32) (p3 : Int32) (p4 : Int32) (p5 : Int32) (r : pm_S) (h : F_M_tell N S a p0 p1 p2 p3 p4 p5 = some r) : pm_rel pG sp (d + 1) mi_M_tell [.ref a, .int p0, .int p1, .int p2, .int p3, .int p4, .int p5] S (none, r) := by
  have hg := g_M_tell h
  unfold F_M_tell at h
  rw [if_pos hg] at h
  refine pE_rel (d := d + 0) ?_
  show pmE pG _ mi_M_tell 0 [some (.ref a), some (.int p0), some (.int p1), some (.int p2), some (.int p3), some (.int p4), some (.int p5), none] [] S _
  refine pE_jump 4 (pc' := 5) (ls' := [some (.ref a), some (.int p0), some (.int p1), some (.int p2), some (.int p3), some (.int p4), some (.int p5), none]) (st' := [.ref a, .int (60 * p0)]) (fun _ => rfl) ?_
  obtain ⟨oq1, hq1, h⟩ := obind h
  cases oq1 with
  | none => cases h
  | some q1 =>
    try dsimp only at h
    refine pE_gfS rfl rfl hq1 ?_
    refine pE_jump 1 (pc' := 9) (ls' := [some (.ref a), some (.int p0), some (.int p1), some (.int p2), some (.int p3), some (.int p4), some (.int p5), none]) (st' := [.int p0, .ref q1, .int (60 * p0)]) (fun _ => rfl) ?_
    obtain ⟨v2, hv2, h⟩ := obind h
    refine pE_aI rfl rfl hv2 ?_
    refine pE_jump 3 (pc' := 14) (ls' := [some (.ref a), some (.int p0), some (.int p1), some (.int p2), some (.int p3), some (.int p4), some (.int p5), some (.int ((60 * p0) + v2))]) (st' := [.ref a]) (fun _ => rfl) ?_
    obtain ⟨oq3, hq3, h⟩ := obind h
    cases oq3 with
    | none => cases h
    | some q3 =>
      try dsimp only at h
      refine pE_gfS rfl rfl hq3 ?_
      refine pE_jump 2 (pc' := 20) (ls' := [some (.ref a), some (.int p0), some (.int p1), some (.int p2), some (.int p3), some (.int p4), some (.int p5), some (.int ((60 * p0) + v2))]) (st' := [.int p1, .int ((60 * p0) + v2), .ref q3]) (fun _ => rfl) ?_
      obtain ⟨S4, hS4, h⟩ := obind h
      refine pE_sI rfl rfl hS4 ?_
      refine pE_jump 1 (pc' := 22) (ls' := [some (.ref a), some (.int p0), some (.int p1), some (.int p2), some (.int p3), some (.int p4), some (.int p5), some (.int ((60 * p0) + v2))]) (st' := [.ref a]) (fun _ => rfl) ?_
      obtain ⟨oq5, hq5, h⟩ := obind h
      cases oq5 with
      | none => cases h
      | some q5 =>
        try dsimp only at h
        refine pE_gfS rfl rfl hq5 ?_
        refine pE_jump 2 (pc' := 28) (ls' := [some (.ref a), some (.int p0), some (.int p1), some (.int p2), some (.int p3), some (.int p4), some (.int p5), some (.int ((60 * p0) + v2))]) (st' := [.int p2, .int ((60 * p0) + v2), .ref q5]) (fun _ => rfl) ?_
        obtain ⟨S6, hS6, h⟩ := obind h
        refine pE_sI rfl rfl hS6 ?_
        refine pE_jump 1 (pc' := 30) (ls' := [some (.ref a), some (.int p0), some (.int p1), some (.int p2), some (.int p3), some (.int p4), some (.int p5), some (.int ((60 * p0) + v2))]) (st' := [.ref a]) (fun _ => rfl) ?_
        obtain ⟨oq7, hq7, h⟩ := obind h
        cases oq7 with
        | none => cases h
        | some q7 =>
          try dsimp only at h
          refine pE_gfS rfl rfl hq7 ?_
          refine pE_jump 2 (pc' := 37) (ls' := [some (.ref a), some (.int p0), some (.int p1), some (.int p2), some (.int p3), some (.int p4), some (.int p5), some (.int ((60 * p0) + v2))]) (st' := [.int p3, .int ((60 * p0) + v2), .ref q7]) (fun _ => rfl) ?_
          obtain ⟨S8, hS8, h⟩ := obind h
          refine pE_sI rfl rfl hS8 ?_
          refine pE_jump 1 (pc' := 39) (ls' := [some (.ref a), some (.int p0), some (.int p1), some (.int p2), some (.int p3), some (.int p4), some (.int p5), some (.int ((60 * p0) + v2))]) (st' := [.ref a]) (fun _ => rfl) ?_
          obtain ⟨oq9, hq9, h⟩ := obind h
          cases oq9 with
          | none => cases h
          | some q9 =>
            try dsimp only at h
            refine pE_gfS rfl rfl hq9 ?_
            refine pE_jump 2 (pc' := 46) (ls' := [some (.ref a), some (.int p0), some (.int p1), some (.int p2), some (.int p3), some (.int p4), some (.int p5), some (.int ((60 * p0) + v2))]) (st' := [.int p4, .int ((60 * p0) + v2), .ref q9]) (fun _ => rfl) ?_
            obtain ⟨S10, hS10, h⟩ := obind h
            refine pE_sI rfl rfl hS10 ?_
            refine pE_jump 1 (pc' := 48) (ls' := [some (.ref a), some (.int p0), some (.int p1), some (.int p2), some (.int p3), some (.int p4), some (.int p5), some (.int ((60 * p0) + v2))]) (st' := [.ref a]) (fun _ => rfl) ?_
            obtain ⟨oq11, hq11, h⟩ := obind h
            cases oq11 with
            | none => cases h
            | some q11 =>
              try dsimp only at h
              refine pE_gfS rfl rfl hq11 ?_
              refine pE_jump 2 (pc' := 55) (ls' := [some (.ref a), some (.int p0), some (.int p1), some (.int p2), some (.int p3), some (.int p4), some (.int p5), some (.int ((60 * p0) + v2))]) (st' := [.int p5, .int ((60 * p0) + v2), .ref q11]) (fun _ => rfl) ?_
              obtain ⟨S12, hS12, h⟩ := obind h
              refine pE_sI rfl rfl hS12 ?_
              refine pE_jump 1 (pc' := 57) (ls' := [some (.ref a), some (.int p0), some (.int p1), some (.int p2), some (.int p3), some (.int p4), some (.int p5), some (.int ((60 * p0) + v2))]) (st' := [.ref a]) (fun _ => rfl) ?_
              obtain ⟨oq13, hq13, h⟩ := obind h
              cases oq13 with
              | none => cases h
              | some q13 =>
                try dsimp only at h
                refine pE_gfS rfl rfl hq13 ?_
                refine pE_jump 2 (pc' := 62) (ls' := [some (.ref a), some (.int p0), some (.int p1), some (.int p2), some (.int p3), some (.int p4), some (.int p5), some (.int ((60 * p0) + v2))]) (st' := [.int p0, .ref q13, .int p0, .ref q13]) (fun _ => rfl) ?_
                obtain ⟨v14, hv14, h⟩ := obind h
                refine pE_aI rfl rfl hv14 ?_
                refine pE_jump 2 (pc' := 65) (ls' := [some (.ref a), some (.int p0), some (.int p1), some (.int p2), some (.int p3), some (.int p4), some (.int p5), some (.int ((60 * p0) + v2))]) (st' := [.int (v14 + 1), .int p0, .ref q13]) (fun _ => rfl) ?_
                obtain ⟨S15, hS15, h⟩ := obind h
                refine pE_sI rfl rfl hS15 ?_
                cases h
                exact pE_ret rfl rfl rfl
def F_M_readTold (N : Nat) (S : pm_S) (a : Nat) (p0 : Int32) (p1 : Int32) : Option (Int32 × pm_S) :=
    if rcv S a 11 = true then
    ((oR S a 11 7).bind fun oq1 => match oq1 with
    | none => none
    | some q1 =>
    (aI [0, 6] S q1 p0).bind fun v2 =>
    (F_M_number N S a 0 (v2 - 1) 0 p0 0).bind fun (v4, S3) =>
    if v4 = 0 then
    some (0, S3)
    else
    ((oI S3 a 11 5).bind fun v5 =>
    (oR S3 a 11 10).bind fun oq6 => match oq6 with
    | none => none
    | some q6 =>
    (aI [0, 6] S3 q6 ((7 * p0) + v5)).bind fun v7 =>
    (F_M_number N S3 a 0 (v7 - 1) 0 p0 0).bind fun (v9, S8) =>
    if v9 = 0 then
    some (0, S8)
    else
    ((oI S8 a 11 5).bind fun v10 =>
    if p1 = 1 then
    ((F_M_number N S8 a 0 9 0 p0 0).bind fun (v12, S11) =>
    if v12 = 0 then
    some (0, S11)
    else
    ((oI S11 a 11 5).bind fun v13 =>
    (F_M_tell N S11 a p0 1 v5 v10 v13 0).bind fun S14 =>
    some (1, S14)))
    else
    ((oR S8 a 11 7).bind fun oq16 => match oq16 with
    | none => none
    | some q16 =>
    (aI [0, 6] S8 q16 p0).bind fun v17 =>
    (F_M_number N S8 a 0 (v17 - 1) 2 p0 v5).bind fun (v19, S18) =>
    if v19 = 0 then
    some (0, S18)
    else
    ((oI S18 a 11 5).bind fun v20 =>
    (oR S18 a 11 10).bind fun oq21 => match oq21 with
    | none => none
    | some q21 =>
    (aI [0, 6] S18 q21 ((7 * p0) + v20)).bind fun v22 =>
    (F_M_number N S18 a 0 (v22 - 1) 0 p0 0).bind fun (v24, S23) =>
    if v24 = 0 then
    some (0, S23)
    else
    ((oI S23 a 11 5).bind fun v25 =>
    (F_M_tell N S23 a p0 0 v5 v10 v20 v25).bind fun S26 =>
    some (1, S26)))))))
    else none
theorem g_M_readTold {N : Nat} {S : pm_S} {a : Nat} {p0 : Int32} {p1 : Int32} {r : (Int32 × pm_S)} (h : F_M_readTold N S a p0 p1 = some r) : rcv S a 11 = true := by
  unfold F_M_readTold at h
  by_cases c : rcv S a 11 = true
  · exact c
  · rw [if_neg c] at h; cases h
set_option maxHeartbeats 4000000 in
set_option maxRecDepth 20000 in
theorem f_M_readTold (sp : pm_I → List Value → pm_S → pm_O → Prop) (d N : Nat) (S : pm_S) (a : Nat) (p0 : Int32) (p1 : Int32) (r : (Int32 × pm_S)) (h : F_M_readTold N S a p0 p1 = some r) : pm_rel pG sp (d + 4) mi_M_readTold [.ref a, .int p0, .int p1] S (some (.int r.1), r.2) := by
  have hg := g_M_readTold h
  unfold F_M_readTold at h
  rw [if_pos hg] at h
  refine pE_rel (d := d + 3) ?_
  show pmE pG _ mi_M_readTold 0 [some (.ref a), some (.int p0), some (.int p1), none, none, none] [] S _
  refine pE_jump 3 (pc' := 3) (ls' := [some (.ref a), some (.int p0), some (.int p1), none, none, none]) (st' := [.ref a, .int 0, .ref a]) (fun _ => rfl) ?_
  obtain ⟨oq1, hq1, h⟩ := obind h
  cases oq1 with
  | none => cases h
  | some q1 =>
    try dsimp only at h
    refine pE_gfS rfl rfl hq1 ?_
    refine pE_jump 1 (pc' := 7) (ls' := [some (.ref a), some (.int p0), some (.int p1), none, none, none]) (st' := [.int p0, .ref q1, .int 0, .ref a]) (fun _ => rfl) ?_
    obtain ⟨v2, hv2, h⟩ := obind h
    refine pE_aI rfl rfl hv2 ?_
    refine pE_jump 5 (pc' := 13) (ls' := [some (.ref a), some (.int p0), some (.int p1), none, none, none]) (st' := [.int 0, .int p0, .int 0, .int (v2 - 1), .int 0, .ref a]) (fun _ => rfl) ?_
    obtain ⟨⟨v4, S3⟩, hv4, h⟩ := obind h
    try dsimp only at h
    refine pE_iv (Bs := [.int 0, .int (v2 - 1), .int 0, .int p0, .int 0]) (st := []) 1 rfl (Or.inl ⟨rfl, rfl⟩) rfl rfl (Nat.le_of_ble_eq_true rfl) (Nat.le_of_ble_eq_true rfl) (g_M_number hv4) (f_M_number sp d N S a 0 (v2 - 1) 0 p0 0 _ hv4) ?_
    refine pE_br (¬ v4 = 0) rfl rfl (fun c31 => ?_) (fun c31 => ?_)
    · rw [if_neg c31] at h
      refine pE_jump 1 (pc' := 22) (ls' := [some (.ref a), some (.int p0), some (.int p1), none, none, none]) (st' := [.ref a]) (fun _ => rfl) ?_
      obtain ⟨v5, hv5, h⟩ := obind h
      refine pE_gfI rfl rfl hv5 ?_
      refine pE_jump 4 (pc' := 29) (ls' := [some (.ref a), some (.int p0), some (.int p1), some (.int v5), none, none]) (st' := [.ref a, .int 0, .ref a]) (fun _ => rfl) ?_
      obtain ⟨oq6, hq6, h⟩ := obind h
      cases oq6 with
      | none => cases h
      | some q6 =>
        try dsimp only at h
        refine pE_gfS rfl rfl hq6 ?_
        refine pE_jump 5 (pc' := 38) (ls' := [some (.ref a), some (.int p0), some (.int p1), some (.int v5), none, none]) (st' := [.int ((7 * p0) + v5), .ref q6, .int 0, .ref a]) (fun _ => rfl) ?_
        obtain ⟨v7, hv7, h⟩ := obind h
        refine pE_aI rfl rfl hv7 ?_
        refine pE_jump 5 (pc' := 44) (ls' := [some (.ref a), some (.int p0), some (.int p1), some (.int v5), none, none]) (st' := [.int 0, .int p0, .int 0, .int (v7 - 1), .int 0, .ref a]) (fun _ => rfl) ?_
        obtain ⟨⟨v9, S8⟩, hv9, h⟩ := obind h
        try dsimp only at h
        refine pE_iv (Bs := [.int 0, .int (v7 - 1), .int 0, .int p0, .int 0]) (st := []) 1 rfl (Or.inl ⟨rfl, rfl⟩) rfl rfl (Nat.le_of_ble_eq_true rfl) (Nat.le_of_ble_eq_true rfl) (g_M_number hv9) (f_M_number sp d N S3 a 0 (v7 - 1) 0 p0 0 _ hv9) ?_
        refine pE_br (¬ v9 = 0) rfl rfl (fun c30 => ?_) (fun c30 => ?_)
        · rw [if_neg c30] at h
          refine pE_jump 1 (pc' := 53) (ls' := [some (.ref a), some (.int p0), some (.int p1), some (.int v5), none, none]) (st' := [.ref a]) (fun _ => rfl) ?_
          obtain ⟨v10, hv10, h⟩ := obind h
          refine pE_gfI rfl rfl hv10 ?_
          refine pE_jump 3 (pc' := 60) (ls' := [some (.ref a), some (.int p0), some (.int p1), some (.int v5), some (.int v10), none]) (st' := [.int 1, .int p1]) (fun _ => rfl) ?_
          refine pE_br (¬ p1 = 1) rfl rfl (fun c29 => ?_) (fun c29 => ?_)
          · rw [if_neg c29] at h
            refine pE_jump 3 (pc' := 97) (ls' := [some (.ref a), some (.int p0), some (.int p1), some (.int v5), some (.int v10), none]) (st' := [.ref a, .int 0, .ref a]) (fun _ => rfl) ?_
            obtain ⟨oq16, hq16, h⟩ := obind h
            cases oq16 with
            | none => cases h
            | some q16 =>
              try dsimp only at h
              refine pE_gfS rfl rfl hq16 ?_
              refine pE_jump 1 (pc' := 101) (ls' := [some (.ref a), some (.int p0), some (.int p1), some (.int v5), some (.int v10), none]) (st' := [.int p0, .ref q16, .int 0, .ref a]) (fun _ => rfl) ?_
              obtain ⟨v17, hv17, h⟩ := obind h
              refine pE_aI rfl rfl hv17 ?_
              refine pE_jump 5 (pc' := 107) (ls' := [some (.ref a), some (.int p0), some (.int p1), some (.int v5), some (.int v10), none]) (st' := [.int v5, .int p0, .int 2, .int (v17 - 1), .int 0, .ref a]) (fun _ => rfl) ?_
              obtain ⟨⟨v19, S18⟩, hv19, h⟩ := obind h
              try dsimp only at h
              refine pE_iv (Bs := [.int 0, .int (v17 - 1), .int 2, .int p0, .int v5]) (st := []) 1 rfl (Or.inl ⟨rfl, rfl⟩) rfl rfl (Nat.le_of_ble_eq_true rfl) (Nat.le_of_ble_eq_true rfl) (g_M_number hv19) (f_M_number sp d N S8 a 0 (v17 - 1) 2 p0 v5 _ hv19) ?_
              refine pE_br (¬ v19 = 0) rfl rfl (fun c28 => ?_) (fun c28 => ?_)
              · rw [if_neg c28] at h
                refine pE_jump 1 (pc' := 116) (ls' := [some (.ref a), some (.int p0), some (.int p1), some (.int v5), some (.int v10), none]) (st' := [.ref a]) (fun _ => rfl) ?_
                obtain ⟨v20, hv20, h⟩ := obind h
                refine pE_gfI rfl rfl hv20 ?_
                refine pE_jump 4 (pc' := 124) (ls' := [some (.ref a), some (.int p0), some (.int p1), some (.int v5), some (.int v10), some (.int v20)]) (st' := [.ref a, .int 0, .ref a]) (fun _ => rfl) ?_
                obtain ⟨oq21, hq21, h⟩ := obind h
                cases oq21 with
                | none => cases h
                | some q21 =>
                  try dsimp only at h
                  refine pE_gfS rfl rfl hq21 ?_
                  refine pE_jump 5 (pc' := 134) (ls' := [some (.ref a), some (.int p0), some (.int p1), some (.int v5), some (.int v10), some (.int v20)]) (st' := [.int ((7 * p0) + v20), .ref q21, .int 0, .ref a]) (fun _ => rfl) ?_
                  obtain ⟨v22, hv22, h⟩ := obind h
                  refine pE_aI rfl rfl hv22 ?_
                  refine pE_jump 5 (pc' := 140) (ls' := [some (.ref a), some (.int p0), some (.int p1), some (.int v5), some (.int v10), some (.int v20)]) (st' := [.int 0, .int p0, .int 0, .int (v22 - 1), .int 0, .ref a]) (fun _ => rfl) ?_
                  obtain ⟨⟨v24, S23⟩, hv24, h⟩ := obind h
                  try dsimp only at h
                  refine pE_iv (Bs := [.int 0, .int (v22 - 1), .int 0, .int p0, .int 0]) (st := []) 1 rfl (Or.inl ⟨rfl, rfl⟩) rfl rfl (Nat.le_of_ble_eq_true rfl) (Nat.le_of_ble_eq_true rfl) (g_M_number hv24) (f_M_number sp d N S18 a 0 (v22 - 1) 0 p0 0 _ hv24) ?_
                  refine pE_br (¬ v24 = 0) rfl rfl (fun c27 => ?_) (fun c27 => ?_)
                  · rw [if_neg c27] at h
                    refine pE_jump 7 (pc' := 157) (ls' := [some (.ref a), some (.int p0), some (.int p1), some (.int v5), some (.int v10), some (.int v20)]) (st' := [.ref a, .int v20, .int v10, .int v5, .int 0, .int p0, .ref a]) (fun _ => rfl) ?_
                    obtain ⟨v25, hv25, h⟩ := obind h
                    refine pE_gfI rfl rfl hv25 ?_
                    obtain ⟨S26, hS26, h⟩ := obind h
                    refine pE_iv (Bs := [.int p0, .int 0, .int v5, .int v10, .int v20, .int v25]) (st := []) 1 rfl (Or.inl ⟨rfl, rfl⟩) rfl rfl (Nat.le_of_ble_eq_true rfl) (Nat.le_of_ble_eq_true rfl) (g_M_tell hS26) (f_M_tell sp (d + 2) N S23 a p0 0 v5 v10 v20 v25 _ hS26) ?_
                    refine pE_jump 1 (pc' := 164) (ls' := [some (.ref a), some (.int p0), some (.int p1), some (.int v5), some (.int v10), some (.int v20)]) (st' := [.int 1]) (fun _ => rfl) ?_
                    cases h
                    exact pE_ret rfl rfl rfl
                  · have c27 := Decidable.not_not.mp c27
                    rw [if_pos c27] at h
                    refine pE_jump 1 (pc' := 147) (ls' := [some (.ref a), some (.int p0), some (.int p1), some (.int v5), some (.int v10), some (.int v20)]) (st' := [.int 0]) (fun _ => rfl) ?_
                    cases h
                    exact pE_ret rfl rfl rfl
              · have c28 := Decidable.not_not.mp c28
                rw [if_pos c28] at h
                refine pE_jump 1 (pc' := 114) (ls' := [some (.ref a), some (.int p0), some (.int p1), some (.int v5), some (.int v10), none]) (st' := [.int 0]) (fun _ => rfl) ?_
                cases h
                exact pE_ret rfl rfl rfl
          · have c29 := Decidable.not_not.mp c29
            rw [if_pos c29] at h
            refine pE_jump 6 (pc' := 70) (ls' := [some (.ref a), some (.int p0), some (.int p1), some (.int v5), some (.int v10), none]) (st' := [.int 0, .int p0, .int 0, .int 9, .int 0, .ref a]) (fun _ => rfl) ?_
            obtain ⟨⟨v12, S11⟩, hv12, h⟩ := obind h
            try dsimp only at h
            refine pE_iv (Bs := [.int 0, .int 9, .int 0, .int p0, .int 0]) (st := []) 1 rfl (Or.inl ⟨rfl, rfl⟩) rfl rfl (Nat.le_of_ble_eq_true rfl) (Nat.le_of_ble_eq_true rfl) (g_M_number hv12) (f_M_number sp d N S8 a 0 9 0 p0 0 _ hv12) ?_
            refine pE_br (¬ v12 = 0) rfl rfl (fun c15 => ?_) (fun c15 => ?_)
            · rw [if_neg c15] at h
              refine pE_jump 6 (pc' := 85) (ls' := [some (.ref a), some (.int p0), some (.int p1), some (.int v5), some (.int v10), none]) (st' := [.ref a, .int v10, .int v5, .int 1, .int p0, .ref a]) (fun _ => rfl) ?_
              obtain ⟨v13, hv13, h⟩ := obind h
              refine pE_gfI rfl rfl hv13 ?_
              refine pE_jump 1 (pc' := 89) (ls' := [some (.ref a), some (.int p0), some (.int p1), some (.int v5), some (.int v10), none]) (st' := [.int 0, .int v13, .int v10, .int v5, .int 1, .int p0, .ref a]) (fun _ => rfl) ?_
              obtain ⟨S14, hS14, h⟩ := obind h
              refine pE_iv (Bs := [.int p0, .int 1, .int v5, .int v10, .int v13, .int 0]) (st := []) 1 rfl (Or.inl ⟨rfl, rfl⟩) rfl rfl (Nat.le_of_ble_eq_true rfl) (Nat.le_of_ble_eq_true rfl) (g_M_tell hS14) (f_M_tell sp (d + 2) N S11 a p0 1 v5 v10 v13 0 _ hS14) ?_
              refine pE_jump 1 (pc' := 93) (ls' := [some (.ref a), some (.int p0), some (.int p1), some (.int v5), some (.int v10), none]) (st' := [.int 1]) (fun _ => rfl) ?_
              cases h
              exact pE_ret rfl rfl rfl
            · have c15 := Decidable.not_not.mp c15
              rw [if_pos c15] at h
              refine pE_jump 1 (pc' := 77) (ls' := [some (.ref a), some (.int p0), some (.int p1), some (.int v5), some (.int v10), none]) (st' := [.int 0]) (fun _ => rfl) ?_
              cases h
              exact pE_ret rfl rfl rfl
        · have c30 := Decidable.not_not.mp c30
          rw [if_pos c30] at h
          refine pE_jump 1 (pc' := 51) (ls' := [some (.ref a), some (.int p0), some (.int p1), some (.int v5), none, none]) (st' := [.int 0]) (fun _ => rfl) ?_
          cases h
          exact pE_ret rfl rfl rfl
    · have c31 := Decidable.not_not.mp c31
      rw [if_pos c31] at h
      refine pE_jump 1 (pc' := 20) (ls' := [some (.ref a), some (.int p0), some (.int p1), none, none, none]) (st' := [.int 0]) (fun _ => rfl) ?_
      cases h
      exact pE_ret rfl rfl rfl
