def F_Bench_fill_103 (N : Nat)  (x1 : Nat) (x3 : Int32) (S : pm_S) : Option pm_S :=
    (oR S x1 4 11).bind fun oq5 => match oq5 with
    | none => none
    | some q5 =>
    (oI S q5 5 2).bind fun v6 =>
    (wF S q5 5 2 .int (.int (v6 ||| x3))).bind fun S7 =>
    some S7
set_option maxHeartbeats 4000000 in
set_option maxRecDepth 20000 in
theorem f_Bench_fill_103 (sp : pm_I → List Value → pm_S → pm_O → Prop) (d N : Nat)  (x1 : Nat) (x3 : Int32) (S : pm_S)  (r : pm_S) (h : F_Bench_fill_103 N  x1 x3 S = some r) : pmE pG (pm_rel pG sp (d + 5)) mi_Bench_fill 103 [none, some (.ref x1), none, some (.int x3), none, none] [] S (none, r) := by
  unfold F_Bench_fill_103 at h
  refine pE_jump 1 (pc' := 104) (ls' := [none, some (.ref x1), none, some (.int x3), none, none]) (st' := [.ref x1]) (fun _ => rfl) ?_
  obtain ⟨oq5, hq5, h⟩ := obind h
  cases oq5 with
  | none => cases h
  | some q5 =>
    try dsimp only at h
    refine pE_gfS rfl rfl hq5 ?_
    refine pE_jump 1 (pc' := 108) (ls' := [none, some (.ref x1), none, some (.int x3), none, none]) (st' := [.ref q5, .ref q5]) (fun _ => rfl) ?_
    obtain ⟨v6, hv6, h⟩ := obind h
    refine pE_gfI rfl rfl hv6 ?_
    refine pE_jump 2 (pc' := 113) (ls' := [none, some (.ref x1), none, some (.int x3), none, none]) (st' := [.int (v6 ||| x3), .ref q5]) (fun _ => rfl) ?_
    obtain ⟨S7, hS7, h⟩ := obind h
    refine pE_pf rfl rfl rfl hS7 ?_
    cases h
    exact pE_ret rfl rfl rfl
def F_Bench_fill_97 (N : Nat) (rec20 : Int32 → pm_S → Option pm_S) (x0 : Nat) (x1 : Nat) (x3 : Int32) (x4 : Int32) (S : pm_S) : Option pm_S :=
    rec20 (x4 + 1) S
set_option maxHeartbeats 4000000 in
set_option maxRecDepth 20000 in
theorem f_Bench_fill_97 (sp : pm_I → List Value → pm_S → pm_O → Prop) (d N : Nat) (rec20 : Int32 → pm_S → Option pm_S) (x0 : Nat) (x1 : Nat) (x3 : Int32) (x4 : Int32) (S : pm_S) (hrec20 : ∀ (y1 : Int32) (U : pm_S) (r : pm_S), rec20 y1 U = some r → pmE pG (pm_rel pG sp (d + 5)) mi_Bench_fill 20 [some (.ref x0), some (.ref x1), none, some (.int x3), some (.int y1), none] [] U (none, r)) (r : pm_S) (h : F_Bench_fill_97 N rec20 x0 x1 x3 x4 S = some r) : pmE pG (pm_rel pG sp (d + 5)) mi_Bench_fill 97 [some (.ref x0), some (.ref x1), none, some (.int x3), some (.int x4), none] [] S (none, r) := by
  unfold F_Bench_fill_97 at h
  refine pE_jump 2 (pc' := 20) (ls' := [some (.ref x0), some (.ref x1), none, some (.int x3), some (.int (x4 + 1)), none]) (st' := []) (fun _ => rfl) ?_
  exact hrec20 (x4 + 1) S _ h
def F_Bench_fill_91 (N : Nat) (rec20 : Int32 → pm_S → Option pm_S) (rec42 : Int32 → pm_S → Option pm_S) (x0 : Nat) (x1 : Nat) (x3 : Int32) (x4 : Int32) (x5 : Int32) (S : pm_S) : Option pm_S :=
    rec42 (x5 + 1) S
set_option maxHeartbeats 4000000 in
set_option maxRecDepth 20000 in
theorem f_Bench_fill_91 (sp : pm_I → List Value → pm_S → pm_O → Prop) (d N : Nat) (rec20 : Int32 → pm_S → Option pm_S) (rec42 : Int32 → pm_S → Option pm_S) (x0 : Nat) (x1 : Nat) (x3 : Int32) (x4 : Int32) (x5 : Int32) (S : pm_S) (hrec20 : ∀ (y1 : Int32) (U : pm_S) (r : pm_S), rec20 y1 U = some r → pmE pG (pm_rel pG sp (d + 5)) mi_Bench_fill 20 [some (.ref x0), some (.ref x1), none, some (.int x3), some (.int y1), none] [] U (none, r)) (hrec42 : ∀ (y1 : Int32) (U : pm_S) (r : pm_S), rec42 y1 U = some r → pmE pG (pm_rel pG sp (d + 5)) mi_Bench_fill 42 [some (.ref x0), some (.ref x1), none, some (.int x3), some (.int x4), some (.int y1)] [] U (none, r)) (r : pm_S) (h : F_Bench_fill_91 N rec20 rec42 x0 x1 x3 x4 x5 S = some r) : pmE pG (pm_rel pG sp (d + 5)) mi_Bench_fill 91 [some (.ref x0), some (.ref x1), none, some (.int x3), some (.int x4), some (.int x5)] [] S (none, r) := by
  unfold F_Bench_fill_91 at h
  refine pE_jump 2 (pc' := 42) (ls' := [some (.ref x0), some (.ref x1), none, some (.int x3), some (.int x4), some (.int (x5 + 1))]) (st' := []) (fun _ => rfl) ?_
  exact hrec42 (x5 + 1) S _ h
def F_Bench_fill_85_2 (N : Nat) (rec20 : Int32 → pm_S → Option pm_S) (rec42 : Int32 → pm_S → Option pm_S) (x0 : Nat) (x1 : Nat) (x3 : Int32) (x4 : Int32) (x5 : Int32) (t0 : Int32) (t1 : Int32) (t2 : Nat) (t3 : Nat) (t4 : Int32) (t5 : Int32) (t6 : Nat) (S : pm_S) : Option pm_S :=
    (F_Bench_tell N S t3 t2 t1 t0).bind fun (v14, S13) =>
    (F_Sheet_write N S13 t6 t5 t4 v14).bind fun S15 =>
    F_Bench_fill_91 N rec20 rec42 x0 x1 x3 x4 x5 S15
set_option maxHeartbeats 4000000 in
set_option maxRecDepth 20000 in
theorem f_Bench_fill_85_2 (sp : pm_I → List Value → pm_S → pm_O → Prop) (d N : Nat) (rec20 : Int32 → pm_S → Option pm_S) (rec42 : Int32 → pm_S → Option pm_S) (x0 : Nat) (x1 : Nat) (x3 : Int32) (x4 : Int32) (x5 : Int32) (t0 : Int32) (t1 : Int32) (t2 : Nat) (t3 : Nat) (t4 : Int32) (t5 : Int32) (t6 : Nat) (S : pm_S) (hrec20 : ∀ (y1 : Int32) (U : pm_S) (r : pm_S), rec20 y1 U = some r → pmE pG (pm_rel pG sp (d + 5)) mi_Bench_fill 20 [some (.ref x0), some (.ref x1), none, some (.int x3), some (.int y1), none] [] U (none, r)) (hrec42 : ∀ (y1 : Int32) (U : pm_S) (r : pm_S), rec42 y1 U = some r → pmE pG (pm_rel pG sp (d + 5)) mi_Bench_fill 42 [some (.ref x0), some (.ref x1), none, some (.int x3), some (.int x4), some (.int y1)] [] U (none, r)) (r : pm_S) (h : F_Bench_fill_85_2 N rec20 rec42 x0 x1 x3 x4 x5 t0 t1 t2 t3 t4 t5 t6 S = some r) : pmE pG (pm_rel pG sp (d + 5)) mi_Bench_fill 85 [some (.ref x0), some (.ref x1), none, some (.int x3), some (.int x4), some (.int x5)] [.int t0, .int t1, .ref t2, .ref t3, .int t4, .int t5, .ref t6] S (none, r) := by
  unfold F_Bench_fill_85_2 at h
  obtain ⟨⟨v14, S13⟩, hv14, h⟩ := obind h
  try dsimp only at h
  refine pE_iv (Bs := [.ref t2, .int t1, .int t0]) (st := [.int t4, .int t5, .ref t6]) 1 rfl (Or.inl ⟨rfl, rfl⟩) rfl rfl (Nat.le_of_ble_eq_true rfl) (Nat.le_of_ble_eq_true rfl) (g_Bench_tell hv14) (f_Bench_tell sp d N S t3 t2 t1 t0 _ hv14) ?_
  obtain ⟨S15, hS15, h⟩ := obind h
  refine pE_iv (Bs := [.int t5, .int t4, .int v14]) (st := []) 1 rfl (Or.inl ⟨rfl, rfl⟩) rfl rfl (Nat.le_of_ble_eq_true rfl) (Nat.le_of_ble_eq_true rfl) (g_Sheet_write hS15) (f_Sheet_write sp (d + 3) N S13 t6 t5 t4 v14 _ hS15) ?_
  exact f_Bench_fill_91 sp d N rec20 rec42 x0 x1 x3 x4 x5 S15 hrec20 hrec42 _ h
def B_Bench_fill_42 (N : Nat) (rec20 : Int32 → pm_S → Option pm_S) (rec42 : Int32 → pm_S → Option pm_S) (x0 : Nat) (x1 : Nat) (x3 : Int32) (x4 : Int32) (x5 : Int32) (S : pm_S) : Option pm_S :=
    if 24 ≤ x5 then
    F_Bench_fill_97 N rec20 x0 x1 x3 x4 S
    else
    (if ((x3 >>> (x5 &&& 31)) &&& 1) = 0 then
    F_Bench_fill_91 N rec20 rec42 x0 x1 x3 x4 x5 S
    else
    ((oR S x1 4 11).bind fun oq10 => match oq10 with
    | none => none
    | some q10 =>
    if (x5 &&& 1) = 1 then
    F_Bench_fill_85_2 N rec20 rec42 x0 x1 x3 x4 x5 1 (x5 >>> (1 &&& 31)) x1 x0 x4 x5 q10 S
    else
    F_Bench_fill_85_2 N rec20 rec42 x0 x1 x3 x4 x5 0 (x5 >>> (1 &&& 31)) x1 x0 x4 x5 q10 S))
def F_Bench_fill_42 (N : Nat) (rec20 : Int32 → pm_S → Option pm_S) (x0 : Nat) (x1 : Nat) (x3 : Int32) (x4 : Int32) : Nat → Int32 → pm_S → Option pm_S
  | 0 => fun _ _ => none
  | n + 1 => fun x5 S => B_Bench_fill_42 N rec20 (F_Bench_fill_42 N rec20 x0 x1 x3 x4 n) x0 x1 x3 x4 x5 S
set_option maxHeartbeats 4000000 in
set_option maxRecDepth 20000 in
theorem f_Bench_fill_42 (sp : pm_I → List Value → pm_S → pm_O → Prop) (d N : Nat) (rec20 : Int32 → pm_S → Option pm_S) (x0 : Nat) (x1 : Nat) (x3 : Int32) (x4 : Int32) (hrec20 : ∀ (y1 : Int32) (U : pm_S) (r : pm_S), rec20 y1 U = some r → pmE pG (pm_rel pG sp (d + 5)) mi_Bench_fill 20 [some (.ref x0), some (.ref x1), none, some (.int x3), some (.int y1), none] [] U (none, r)) : ∀ (n : Nat) (x5 : Int32) (S : pm_S) (r : pm_S), F_Bench_fill_42 N rec20 x0 x1 x3 x4 n x5 S = some r → pmE pG (pm_rel pG sp (d + 5)) mi_Bench_fill 42 [some (.ref x0), some (.ref x1), none, some (.int x3), some (.int x4), some (.int x5)] [] S (none, r) := by
  intro n
  induction n with
  | zero =>
    intro x5 S r h
    cases h
  | succ n ih =>
    intro x5 S r h
    replace h : B_Bench_fill_42 N rec20 (F_Bench_fill_42 N rec20 x0 x1 x3 x4 n) x0 x1 x3 x4 x5 S = some r := h
    have hrec42 := ih
    generalize F_Bench_fill_42 N rec20 x0 x1 x3 x4 n = rec42 at h hrec42
    unfold B_Bench_fill_42 at h
    refine pE_jump 2 (pc' := 46) (ls' := [some (.ref x0), some (.ref x1), none, some (.int x3), some (.int x4), some (.int x5)]) (st' := [.int 24, .int x5]) (fun _ => rfl) ?_
    refine pE_br (24 ≤ x5) rfl rfl (fun c18 => ?_) (fun c18 => ?_)
    · rw [if_pos c18] at h
      refine pE_weak [some (.ref x0), some (.ref x1), none, some (.int x3), some (.int x4), none] ⟨rfl, ⟨rfl, ⟨rfl, ⟨rfl, trivial⟩⟩⟩⟩ ?_
      exact f_Bench_fill_97 sp d N rec20 x0 x1 x3 x4 S hrec20 _ h
    · rw [if_neg c18] at h
      refine pE_jump 5 (pc' := 55) (ls' := [some (.ref x0), some (.ref x1), none, some (.int x3), some (.int x4), some (.int x5)]) (st' := [.int ((x3 >>> (x5 &&& 31)) &&& 1)]) (fun _ => rfl) ?_
      refine pE_br (((x3 >>> (x5 &&& 31)) &&& 1) = 0) rfl rfl (fun c17 => ?_) (fun c17 => ?_)
      · rw [if_pos c17] at h
        exact f_Bench_fill_91 sp d N rec20 rec42 x0 x1 x3 x4 x5 S hrec20 hrec42 _ h
      · rw [if_neg c17] at h
        refine pE_jump 1 (pc' := 59) (ls' := [some (.ref x0), some (.ref x1), none, some (.int x3), some (.int x4), some (.int x5)]) (st' := [.ref x1]) (fun _ => rfl) ?_
        obtain ⟨oq10, hq10, h⟩ := obind h
        cases oq10 with
        | none => cases h
        | some q10 =>
          try dsimp only at h
          refine pE_gfS rfl rfl hq10 ?_
          refine pE_jump 11 (pc' := 77) (ls' := [some (.ref x0), some (.ref x1), none, some (.int x3), some (.int x4), some (.int x5)]) (st' := [.int 1, .int (x5 &&& 1), .int (x5 >>> (1 &&& 31)), .ref x1, .ref x0, .int x4, .int x5, .ref q10]) (fun _ => rfl) ?_
          refine pE_br (¬ (x5 &&& 1) = 1) rfl rfl (fun c16 => ?_) (fun c16 => ?_)
          · rw [if_neg c16] at h
            refine pE_jump 1 (pc' := 85) (ls' := [some (.ref x0), some (.ref x1), none, some (.int x3), some (.int x4), some (.int x5)]) (st' := [.int 0, .int (x5 >>> (1 &&& 31)), .ref x1, .ref x0, .int x4, .int x5, .ref q10]) (fun _ => rfl) ?_
            exact f_Bench_fill_85_2 sp d N rec20 rec42 x0 x1 x3 x4 x5 0 (x5 >>> (1 &&& 31)) x1 x0 x4 x5 q10 S hrec20 hrec42 _ h
          · have c16 := Decidable.not_not.mp c16
            rw [if_pos c16] at h
            refine pE_jump 2 (pc' := 85) (ls' := [some (.ref x0), some (.ref x1), none, some (.int x3), some (.int x4), some (.int x5)]) (st' := [.int 1, .int (x5 >>> (1 &&& 31)), .ref x1, .ref x0, .int x4, .int x5, .ref q10]) (fun _ => rfl) ?_
            exact f_Bench_fill_85_2 sp d N rec20 rec42 x0 x1 x3 x4 x5 1 (x5 >>> (1 &&& 31)) x1 x0 x4 x5 q10 S hrec20 hrec42 _ h
def B_Bench_fill_20 (N : Nat)  (rec20 : Int32 → pm_S → Option pm_S) (x0 : Nat) (x1 : Nat) (x3 : Int32) (x4 : Int32) (S : pm_S) : Option pm_S :=
    (F_Plan_worlds N S x1).bind fun (v4, S3) =>
    if v4 ≤ x4 then
    F_Bench_fill_103 N x1 x3 S3
    else
    ((oR S3 x0 0 0).bind fun oq8 => match oq8 with
    | none => none
    | some q8 =>
    (F_Wires_lay N S3 q8 x1 x4).bind fun S9 =>
    F_Bench_fill_42 N rec20 x0 x1 x3 x4 N 0 S9)
def F_Bench_fill_20 (N : Nat)  (x0 : Nat) (x1 : Nat) (x3 : Int32) : Nat → Int32 → pm_S → Option pm_S
  | 0 => fun _ _ => none
  | n + 1 => fun x4 S => B_Bench_fill_20 N  (F_Bench_fill_20 N  x0 x1 x3 n) x0 x1 x3 x4 S
set_option maxHeartbeats 4000000 in
set_option maxRecDepth 20000 in
theorem f_Bench_fill_20 (sp : pm_I → List Value → pm_S → pm_O → Prop) (d N : Nat)  (x0 : Nat) (x1 : Nat) (x3 : Int32)  : ∀ (n : Nat) (x4 : Int32) (S : pm_S) (r : pm_S), F_Bench_fill_20 N  x0 x1 x3 n x4 S = some r → pmE pG (pm_rel pG sp (d + 5)) mi_Bench_fill 20 [some (.ref x0), some (.ref x1), none, some (.int x3), some (.int x4), none] [] S (none, r) := by
  intro n
  induction n with
  | zero =>
    intro x4 S r h
    cases h
  | succ n ih =>
    intro x4 S r h
    replace h : B_Bench_fill_20 N  (F_Bench_fill_20 N  x0 x1 x3 n) x0 x1 x3 x4 S = some r := h
    have hrec20 := ih
    generalize F_Bench_fill_20 N  x0 x1 x3 n = rec20 at h hrec20
    unfold B_Bench_fill_20 at h
    refine pE_jump 2 (pc' := 23) (ls' := [some (.ref x0), some (.ref x1), none, some (.int x3), some (.int x4), none]) (st' := [.ref x1, .int x4]) (fun _ => rfl) ?_
    obtain ⟨⟨v4, S3⟩, hv4, h⟩ := obind h
    try dsimp only at h
    refine pE_iv (Bs := []) (st := [.int x4]) 1 rfl (Or.inl ⟨rfl, rfl⟩) rfl rfl (Nat.le_of_ble_eq_true rfl) (Nat.le_of_ble_eq_true rfl) (g_Plan_worlds hv4) (f_Plan_worlds sp (d + 3) N S x1 _ hv4) ?_
    refine pE_br (v4 ≤ x4) rfl rfl (fun c19 => ?_) (fun c19 => ?_)
    · rw [if_pos c19] at h
      refine pE_weak [none, some (.ref x1), none, some (.int x3), none, none] ⟨rfl, ⟨rfl, trivial⟩⟩ ?_
      exact f_Bench_fill_103 sp d N x1 x3 S3 _ h
    · rw [if_neg c19] at h
      refine pE_jump 1 (pc' := 30) (ls' := [some (.ref x0), some (.ref x1), none, some (.int x3), some (.int x4), none]) (st' := [.ref x0]) (fun _ => rfl) ?_
      obtain ⟨oq8, hq8, h⟩ := obind h
      cases oq8 with
      | none => cases h
      | some q8 =>
        try dsimp only at h
        refine pE_gfS rfl rfl hq8 ?_
        refine pE_jump 2 (pc' := 36) (ls' := [some (.ref x0), some (.ref x1), none, some (.int x3), some (.int x4), none]) (st' := [.int x4, .ref x1, .ref q8]) (fun _ => rfl) ?_
        obtain ⟨S9, hS9, h⟩ := obind h
        refine pE_iv (Bs := [.ref x1, .int x4]) (st := []) 1 rfl (Or.inl ⟨rfl, rfl⟩) rfl rfl (Nat.le_of_ble_eq_true rfl) (Nat.le_of_ble_eq_true rfl) (g_Wires_lay hS9) (f_Wires_lay sp d N S3 q8 x1 x4 _ hS9) ?_
        refine pE_jump 2 (pc' := 42) (ls' := [some (.ref x0), some (.ref x1), none, some (.int x3), some (.int x4), some (.int 0)]) (st' := []) (fun _ => rfl) ?_
        exact f_Bench_fill_42 sp d N rec20 x0 x1 x3 x4 hrec20 N 0 S9 _ h
def F_Bench_fill (N : Nat) (S : pm_S) (a : Nat) (p0 : Nat) (p1 : Int32) : Option pm_S :=
    if rcv S a 0 = true then
    ((oR S p0 4 11).bind fun oq1 => match oq1 with
    | none => none
    | some q1 =>
    (oI S q1 5 2).bind fun v2 =>
    if (p1 &&& (v2 ^^^ (-1))) = 0 then
    some S
    else
    F_Bench_fill_20 N a p0 (p1 &&& (v2 ^^^ (-1))) N 0 S)
    else none
theorem g_Bench_fill {N : Nat} {S : pm_S} {a : Nat} {p0 : Nat} {p1 : Int32} {r : pm_S} (h : F_Bench_fill N S a p0 p1 = some r) : rcv S a 0 = true := by
  unfold F_Bench_fill at h
  by_cases c : rcv S a 0 = true
  · exact c
  · rw [if_neg c] at h; cases h
set_option maxHeartbeats 4000000 in
set_option maxRecDepth 20000 in
theorem f_Bench_fill (sp : pm_I → List Value → pm_S → pm_O → Prop) (d N : Nat) (S : pm_S) (a : Nat) (p0 : Nat) (p1 : Int32) (r : pm_S) (h : F_Bench_fill N S a p0 p1 = some r) : pm_rel pG sp (d + 6) mi_Bench_fill [.ref a, .ref p0, .int p1] S (none, r) := by
  have hg := g_Bench_fill h
  unfold F_Bench_fill at h
  rw [if_pos hg] at h
  refine pE_rel (d := d + 5) ?_
  show pmE pG _ mi_Bench_fill 0 [some (.ref a), some (.ref p0), some (.int p1), none, none, none] [] S _
  refine pE_jump 2 (pc' := 2) (ls' := [some (.ref a), some (.ref p0), some (.int p1), none, none, none]) (st' := [.ref p0, .int p1]) (fun _ => rfl) ?_
  obtain ⟨oq1, hq1, h⟩ := obind h
  cases oq1 with
  | none => cases h
  | some q1 =>
    try dsimp only at h
    refine pE_gfS rfl rfl hq1 ?_
    obtain ⟨v2, hv2, h⟩ := obind h
    refine pE_gfI rfl rfl hv2 ?_
    refine pE_jump 5 (pc' := 13) (ls' := [some (.ref a), some (.ref p0), some (.int p1), some (.int (p1 &&& (v2 ^^^ (-1)))), none, none]) (st' := [.int (p1 &&& (v2 ^^^ (-1)))]) (fun _ => rfl) ?_
    refine pE_br (¬ (p1 &&& (v2 ^^^ (-1))) = 0) rfl rfl (fun c20 => ?_) (fun c20 => ?_)
    · rw [if_neg c20] at h
      refine pE_jump 2 (pc' := 20) (ls' := [some (.ref a), some (.ref p0), some (.int p1), some (.int (p1 &&& (v2 ^^^ (-1)))), some (.int 0), none]) (st' := []) (fun _ => rfl) ?_
      refine pE_weak [some (.ref a), some (.ref p0), none, some (.int (p1 &&& (v2 ^^^ (-1)))), some (.int 0), none] ⟨rfl, ⟨rfl, ⟨rfl, ⟨rfl, trivial⟩⟩⟩⟩ ?_
      exact f_Bench_fill_20 sp d N a p0 (p1 &&& (v2 ^^^ (-1))) N 0 S _ h
    · have c20 := Decidable.not_not.mp c20
      rw [if_pos c20] at h
      cases h
      exact pE_ret rfl rfl rfl
def F_Sheet_written_22 (N : Nat)   (S : pm_S) : Option (Int32 × pm_S) :=
    some ((-1), S)
set_option maxHeartbeats 4000000 in
set_option maxRecDepth 20000 in
theorem f_Sheet_written_22 (sp : pm_I → List Value → pm_S → pm_O → Prop) (d N : Nat)   (S : pm_S)  (r : (Int32 × pm_S)) (h : F_Sheet_written_22 N   S = some r) : pmE pG (pm_rel pG sp (d + 1)) mi_Sheet_written 22 [none, none, none] [] S (some (.int r.1), r.2) := by
  unfold F_Sheet_written_22 at h
  refine pE_jump 1 (pc' := 23) (ls' := [none, none, none]) (st' := [.int (-1)]) (fun _ => rfl) ?_
  cases h
  exact pE_ret rfl rfl rfl
def F_Sheet_written (N : Nat) (S : pm_S) (a : Nat) (p0 : Int32) (p1 : Int32) : Option (Int32 × pm_S) :=
    if rcv S a 5 = true then
    (if p0 < 0 then
    F_Sheet_written_22 N S
    else
    ((oR S a 5 0).bind fun oq1 => match oq1 with
    | none => none
    | some q1 =>
    (aNS S q1).bind fun v2 =>
    if v2 ≤ p0 then
    F_Sheet_written_22 N S
    else
    ((oR S a 5 0).bind fun oq3 => match oq3 with
    | none => none
    | some q3 =>
    (aQ S q3 p0).bind fun oq4 => match oq4 with
    | none => F_Sheet_written_22 N S
    | some q4 =>
    (oR S a 5 0).bind fun oq5 => match oq5 with
    | none => none
    | some q5 =>
    (aQ S q5 p0).bind fun oq6 => match oq6 with
    | none => none
    | some q6 =>
    (F_BP_valueAt N S q6 p1).bind fun (v8, S7) =>
    some (v8, S7))))
    else none
theorem g_Sheet_written {N : Nat} {S : pm_S} {a : Nat} {p0 : Int32} {p1 : Int32} {r : (Int32 × pm_S)} (h : F_Sheet_written N S a p0 p1 = some r) : rcv S a 5 = true := by
  unfold F_Sheet_written at h
  by_cases c : rcv S a 5 = true
  · exact c
  · rw [if_neg c] at h; cases h
set_option maxHeartbeats 4000000 in
set_option maxRecDepth 20000 in
theorem f_Sheet_written (sp : pm_I → List Value → pm_S → pm_O → Prop) (d N : Nat) (S : pm_S) (a : Nat) (p0 : Int32) (p1 : Int32) (r : (Int32 × pm_S)) (h : F_Sheet_written N S a p0 p1 = some r) : pm_rel pG sp (d + 2) mi_Sheet_written [.ref a, .int p0, .int p1] S (some (.int r.1), r.2) := by
  have hg := g_Sheet_written h
  unfold F_Sheet_written at h
  rw [if_pos hg] at h
  refine pE_rel (d := d + 1) ?_
  show pmE pG _ mi_Sheet_written 0 [some (.ref a), some (.int p0), some (.int p1)] [] S _
  refine pE_jump 1 (pc' := 1) (ls' := [some (.ref a), some (.int p0), some (.int p1)]) (st' := [.int p0]) (fun _ => rfl) ?_
  refine pE_br (p0 < 0) rfl rfl (fun c10 => ?_) (fun c10 => ?_)
  · rw [if_pos c10] at h
    refine pE_weak [none, none, none] trivial ?_
    exact f_Sheet_written_22 sp d N S _ h
  · rw [if_neg c10] at h
    refine pE_jump 2 (pc' := 6) (ls' := [some (.ref a), some (.int p0), some (.int p1)]) (st' := [.ref a, .int p0]) (fun _ => rfl) ?_
    obtain ⟨oq1, hq1, h⟩ := obind h
    cases oq1 with
    | none => cases h
    | some q1 =>
      try dsimp only at h
      refine pE_gfS rfl rfl hq1 ?_
      obtain ⟨v2, hv2, h⟩ := obind h
      refine pE_aN rfl hv2 ?_
      refine pE_br (v2 ≤ p0) rfl rfl (fun c9 => ?_) (fun c9 => ?_)
      · rw [if_pos c9] at h
        refine pE_weak [none, none, none] trivial ?_
        exact f_Sheet_written_22 sp d N S _ h
      · rw [if_neg c9] at h
        refine pE_jump 1 (pc' := 14) (ls' := [some (.ref a), some (.int p0), some (.int p1)]) (st' := [.ref a]) (fun _ => rfl) ?_
        obtain ⟨oq3, hq3, h⟩ := obind h
        cases oq3 with
        | none => cases h
        | some q3 =>
          try dsimp only at h
          refine pE_gfS rfl rfl hq3 ?_
          refine pE_jump 1 (pc' := 18) (ls' := [some (.ref a), some (.int p0), some (.int p1)]) (st' := [.int p0, .ref q3]) (fun _ => rfl) ?_
          obtain ⟨oq4, hq4, h⟩ := obind h
          cases oq4 with
          | none =>
            try dsimp only at h
            refine pE_aQN rfl hq4 ?_
            refine pE_jump 1 (pc' := 22) (ls' := [some (.ref a), some (.int p0), some (.int p1)]) (st' := []) (fun _ => rfl) ?_
            refine pE_weak [none, none, none] trivial ?_
            exact f_Sheet_written_22 sp d N S _ h
          | some q4 =>
            try dsimp only at h
            refine pE_aQS rfl hq4 ?_
            refine pE_jump 2 (pc' := 25) (ls' := [some (.ref a), some (.int p0), some (.int p1)]) (st' := [.ref a]) (fun _ => rfl) ?_
            obtain ⟨oq5, hq5, h⟩ := obind h
            cases oq5 with
            | none => cases h
            | some q5 =>
              try dsimp only at h
              refine pE_gfS rfl rfl hq5 ?_
              refine pE_jump 1 (pc' := 29) (ls' := [some (.ref a), some (.int p0), some (.int p1)]) (st' := [.int p0, .ref q5]) (fun _ => rfl) ?_
              obtain ⟨oq6, hq6, h⟩ := obind h
              cases oq6 with
              | none => cases h
              | some q6 =>
                try dsimp only at h
                refine pE_aQS rfl hq6 ?_
                refine pE_jump 1 (pc' := 31) (ls' := [some (.ref a), some (.int p0), some (.int p1)]) (st' := [.int p1, .ref q6]) (fun _ => rfl) ?_
                obtain ⟨⟨v8, S7⟩, hv8, h⟩ := obind h
                try dsimp only at h
                refine pE_is (Bs := [.ref q6, .int p1]) (st := []) rfl rfl rfl (Nat.le_of_ble_eq_true rfl) (Nat.le_of_ble_eq_true rfl) (f_BP_valueAt sp d N S q6 p1 _ hv8) ?_
                cases h
                exact pE_ret rfl rfl rfl
def F_Bench_fits_51 (N : Nat)   (S : pm_S) : Option (Int32 × pm_S) :=
    some (1, S)
set_option maxHeartbeats 4000000 in
set_option maxRecDepth 20000 in
theorem f_Bench_fits_51 (sp : pm_I → List Value → pm_S → pm_O → Prop) (d N : Nat)   (S : pm_S)  (r : (Int32 × pm_S)) (h : F_Bench_fits_51 N   S = some r) : pmE pG (pm_rel pG sp (d + 2)) mi_Bench_fits 51 [none, none, none, none, none] [] S (some (.int r.1), r.2) := by
  unfold F_Bench_fits_51 at h
  refine pE_jump 1 (pc' := 52) (ls' := [none, none, none, none, none]) (st' := [.int 1]) (fun _ => rfl) ?_
  cases h
  exact pE_ret rfl rfl rfl
def F_Bench_fits_43 (N : Nat)   (S : pm_S) : Option (Int32 × pm_S) :=
    some (0, S)
set_option maxHeartbeats 4000000 in
set_option maxRecDepth 20000 in
theorem f_Bench_fits_43 (sp : pm_I → List Value → pm_S → pm_O → Prop) (d N : Nat)   (S : pm_S)  (r : (Int32 × pm_S)) (h : F_Bench_fits_43 N   S = some r) : pmE pG (pm_rel pG sp (d + 2)) mi_Bench_fits 43 [none, none, none, none, none] [] S (some (.int r.1), r.2) := by
  unfold F_Bench_fits_43 at h
  refine pE_jump 1 (pc' := 44) (ls' := [none, none, none, none, none]) (st' := [.int 0]) (fun _ => rfl) ?_
  cases h
  exact pE_ret rfl rfl rfl
def B_Bench_fits_2 (N : Nat)  (rec2 : Int32 → pm_S → Option (Int32 × pm_S)) (x0 : Nat) (x1 : Nat) (x2 : Int32) (x3 : Int32) (S : pm_S) : Option (Int32 × pm_S) :=
    (oR S x1 4 9).bind fun oq1 => match oq1 with
    | none => none
    | some q1 =>
    (F_Ledger_size N S q1).bind fun (v3, S2) =>
    if v3 ≤ x3 then
    F_Bench_fits_51 N S2
    else
    ((oR S2 x1 4 11).bind fun oq4 => match oq4 with
    | none => none
    | some q4 =>
    (F_Bench_columnOfReading N S2 x0 x1 x3).bind fun (v8, S7) =>
    (F_Sheet_written N S7 q4 v8 x2).bind fun (v10, S9) =>
    (oR S9 x1 4 9).bind fun oq11 => match oq11 with
    | none => none
    | some q11 =>
    (F_Ledger_at N S9 q11 x3 2).bind fun (v13, S12) =>
    if v10 = v13 then
    rec2 (x3 + 1) S12
    else
    F_Bench_fits_43 N S12)
def F_Bench_fits_2 (N : Nat)  (x0 : Nat) (x1 : Nat) (x2 : Int32) : Nat → Int32 → pm_S → Option (Int32 × pm_S)
  | 0 => fun _ _ => none
  | n + 1 => fun x3 S => B_Bench_fits_2 N  (F_Bench_fits_2 N  x0 x1 x2 n) x0 x1 x2 x3 S
set_option maxHeartbeats 4000000 in
set_option maxRecDepth 20000 in
theorem f_Bench_fits_2 (sp : pm_I → List Value → pm_S → pm_O → Prop) (d N : Nat)  (x0 : Nat) (x1 : Nat) (x2 : Int32)  : ∀ (n : Nat) (x3 : Int32) (S : pm_S) (r : (Int32 × pm_S)), F_Bench_fits_2 N  x0 x1 x2 n x3 S = some r → pmE pG (pm_rel pG sp (d + 2)) mi_Bench_fits 2 [some (.ref x0), some (.ref x1), some (.int x2), some (.int x3), none] [] S (some (.int r.1), r.2) := by
  intro n
  induction n with
  | zero =>
    intro x3 S r h
    cases h
  | succ n ih =>
    intro x3 S r h
    replace h : B_Bench_fits_2 N  (F_Bench_fits_2 N  x0 x1 x2 n) x0 x1 x2 x3 S = some r := h
    have hrec2 := ih
    generalize F_Bench_fits_2 N  x0 x1 x2 n = rec2 at h hrec2
    unfold B_Bench_fits_2 at h
    refine pE_jump 2 (pc' := 4) (ls' := [some (.ref x0), some (.ref x1), some (.int x2), some (.int x3), none]) (st' := [.ref x1, .int x3]) (fun _ => rfl) ?_
    obtain ⟨oq1, hq1, h⟩ := obind h
    cases oq1 with
    | none => cases h
    | some q1 =>
      try dsimp only at h
      refine pE_gfS rfl rfl hq1 ?_
      obtain ⟨⟨v3, S2⟩, hv3, h⟩ := obind h
      try dsimp only at h
      refine pE_iv (Bs := []) (st := [.int x3]) 1 rfl (Or.inl ⟨rfl, rfl⟩) rfl rfl (Nat.le_of_ble_eq_true rfl) (Nat.le_of_ble_eq_true rfl) (g_Ledger_size hv3) (f_Ledger_size sp (d + 1) N S q1 _ hv3) ?_
      refine pE_br (v3 ≤ x3) rfl rfl (fun c15 => ?_) (fun c15 => ?_)
      · rw [if_pos c15] at h
        refine pE_weak [none, none, none, none, none] trivial ?_
        exact f_Bench_fits_51 sp d N S2 _ h
      · rw [if_neg c15] at h
        refine pE_jump 1 (pc' := 14) (ls' := [some (.ref x0), some (.ref x1), some (.int x2), some (.int x3), none]) (st' := [.ref x1]) (fun _ => rfl) ?_
        obtain ⟨oq4, hq4, h⟩ := obind h
        cases oq4 with
        | none => cases h
        | some q4 =>
          try dsimp only at h
          refine pE_gfS rfl rfl hq4 ?_
          refine pE_jump 3 (pc' := 20) (ls' := [some (.ref x0), some (.ref x1), some (.int x2), some (.int x3), none]) (st' := [.int x3, .ref x1, .ref x0, .ref q4]) (fun _ => rfl) ?_
          obtain ⟨⟨v8, S7⟩, hv8, h⟩ := obind h
          try dsimp only at h
          refine pE_iv (Bs := [.ref x1, .int x3]) (st := [.ref q4]) 1 rfl (Or.inl ⟨rfl, rfl⟩) rfl rfl (Nat.le_of_ble_eq_true rfl) (Nat.le_of_ble_eq_true rfl) (g_Bench_columnOfReading hv8) (f_Bench_columnOfReading sp d N S2 x0 x1 x3 _ hv8) ?_
          refine pE_jump 1 (pc' := 24) (ls' := [some (.ref x0), some (.ref x1), some (.int x2), some (.int x3), none]) (st' := [.int x2, .int v8, .ref q4]) (fun _ => rfl) ?_
          obtain ⟨⟨v10, S9⟩, hv10, h⟩ := obind h
          try dsimp only at h
          refine pE_iv (Bs := [.int v8, .int x2]) (st := []) 1 rfl (Or.inl ⟨rfl, rfl⟩) rfl rfl (Nat.le_of_ble_eq_true rfl) (Nat.le_of_ble_eq_true rfl) (g_Sheet_written hv10) (f_Sheet_written sp d N S7 q4 v8 x2 _ hv10) ?_
          refine pE_jump 3 (pc' := 32) (ls' := [some (.ref x0), some (.ref x1), some (.int x2), some (.int x3), some (.int v10)]) (st' := [.ref x1, .int v10]) (fun _ => rfl) ?_
          obtain ⟨oq11, hq11, h⟩ := obind h
          cases oq11 with
          | none => cases h
          | some q11 =>
            try dsimp only at h
            refine pE_gfS rfl rfl hq11 ?_
            refine pE_jump 2 (pc' := 37) (ls' := [some (.ref x0), some (.ref x1), some (.int x2), some (.int x3), some (.int v10)]) (st' := [.int 2, .int x3, .ref q11, .int v10]) (fun _ => rfl) ?_
            obtain ⟨⟨v13, S12⟩, hv13, h⟩ := obind h
            try dsimp only at h
            refine pE_iv (Bs := [.int x3, .int 2]) (st := [.int v10]) 1 rfl (Or.inl ⟨rfl, rfl⟩) rfl rfl (Nat.le_of_ble_eq_true rfl) (Nat.le_of_ble_eq_true rfl) (g_Ledger_at hv13) (f_Ledger_at sp (d + 1) N S9 q11 x3 2 _ hv13) ?_
            refine pE_br (v10 = v13) rfl rfl (fun c14 => ?_) (fun c14 => ?_)
            · rw [if_pos c14] at h
              refine pE_jump 2 (pc' := 2) (ls' := [some (.ref x0), some (.ref x1), some (.int x2), some (.int (x3 + 1)), some (.int v10)]) (st' := []) (fun _ => rfl) ?_
              refine pE_weak [some (.ref x0), some (.ref x1), some (.int x2), some (.int (x3 + 1)), none] ⟨rfl, ⟨rfl, ⟨rfl, ⟨rfl, trivial⟩⟩⟩⟩ ?_
              exact hrec2 (x3 + 1) S12 _ h
            · rw [if_neg c14] at h
              refine pE_weak [none, none, none, none, none] trivial ?_
              exact f_Bench_fits_43 sp d N S12 _ h
def F_Bench_fits (N : Nat) (S : pm_S) (a : Nat) (p0 : Nat) (p1 : Int32) : Option (Int32 × pm_S) :=
    if rcv S a 0 = true then
    (F_Bench_fits_2 N a p0 p1 N 0 S)
    else none
theorem g_Bench_fits {N : Nat} {S : pm_S} {a : Nat} {p0 : Nat} {p1 : Int32} {r : (Int32 × pm_S)} (h : F_Bench_fits N S a p0 p1 = some r) : rcv S a 0 = true := by
  unfold F_Bench_fits at h
  by_cases c : rcv S a 0 = true
  · exact c
  · rw [if_neg c] at h; cases h
set_option maxHeartbeats 4000000 in
set_option maxRecDepth 20000 in
theorem f_Bench_fits (sp : pm_I → List Value → pm_S → pm_O → Prop) (d N : Nat) (S : pm_S) (a : Nat) (p0 : Nat) (p1 : Int32) (r : (Int32 × pm_S)) (h : F_Bench_fits N S a p0 p1 = some r) : pm_rel pG sp (d + 3) mi_Bench_fits [.ref a, .ref p0, .int p1] S (some (.int r.1), r.2) := by
  have hg := g_Bench_fits h
  unfold F_Bench_fits at h
  rw [if_pos hg] at h
  refine pE_rel (d := d + 2) ?_
  show pmE pG _ mi_Bench_fits 0 [some (.ref a), some (.ref p0), some (.int p1), none, none] [] S _
  refine pE_jump 2 (pc' := 2) (ls' := [some (.ref a), some (.ref p0), some (.int p1), some (.int 0), none]) (st' := []) (fun _ => rfl) ?_
  exact f_Bench_fits_2 sp d N a p0 p1 N 0 S _ h
def F_Sheet_addFit_34 (N : Nat)   (S : pm_S) : Option pm_S :=
    some S
set_option maxHeartbeats 4000000 in
set_option maxRecDepth 20000 in
theorem f_Sheet_addFit_34 (sp : pm_I → List Value → pm_S → pm_O → Prop) (d N : Nat)   (S : pm_S)  (r : pm_S) (h : F_Sheet_addFit_34 N   S = some r) : pmE pG (pm_rel pG sp (d + 1)) mi_Sheet_addFit 34 [none, none] [] S (none, r) := by
  unfold F_Sheet_addFit_34 at h
  cases h
  exact pE_ret rfl rfl rfl
def F_Sheet_addFit (N : Nat) (S : pm_S) (a : Nat) (p0 : Int32) : Option pm_S :=
    if rcv S a 5 = true then
    ((oI S a 5 3).bind fun v1 =>
    (oR S a 5 1).bind fun oq2 => match oq2 with
    | none => none
    | some q2 =>
    (aNS S q2).bind fun v3 =>
    if v3 ≤ v1 then
    F_Sheet_addFit_34 N S
    else
    ((oR S a 5 1).bind fun oq4 => match oq4 with
    | none => none
    | some q4 =>
    (oI S a 5 3).bind fun v6 =>
    (F_BP_setAt N S q4 v6 p0).bind fun S7 =>
    (oI S7 a 5 3).bind fun v8 =>
    (wF S7 a 5 3 .int (.int (v8 + 1))).bind fun S9 =>
    F_Sheet_addFit_34 N S9))
    else none
theorem g_Sheet_addFit {N : Nat} {S : pm_S} {a : Nat} {p0 : Int32} {r : pm_S} (h : F_Sheet_addFit N S a p0 = some r) : rcv S a 5 = true := by
  unfold F_Sheet_addFit at h
  by_cases c : rcv S a 5 = true
  · exact c
  · rw [if_neg c] at h; cases h
set_option maxHeartbeats 4000000 in
set_option maxRecDepth 20000 in
theorem f_Sheet_addFit (sp : pm_I → List Value → pm_S → pm_O → Prop) (d N : Nat) (S : pm_S) (a : Nat) (p0 : Int32) (r : pm_S) (h : F_Sheet_addFit N S a p0 = some r) : pm_rel pG sp (d + 2) mi_Sheet_addFit [.ref a, .int p0] S (none, r) := by
  have hg := g_Sheet_addFit h
  unfold F_Sheet_addFit at h
  rw [if_pos hg] at h
  refine pE_rel (d := d + 1) ?_
  show pmE pG _ mi_Sheet_addFit 0 [some (.ref a), some (.int p0)] [] S _
  refine pE_jump 1 (pc' := 1) (ls' := [some (.ref a), some (.int p0)]) (st' := [.ref a]) (fun _ => rfl) ?_
  obtain ⟨v1, hv1, h⟩ := obind h
  refine pE_gfI rfl rfl hv1 ?_
  refine pE_jump 1 (pc' := 5) (ls' := [some (.ref a), some (.int p0)]) (st' := [.ref a, .int v1]) (fun _ => rfl) ?_
  obtain ⟨oq2, hq2, h⟩ := obind h
  cases oq2 with
  | none => cases h
  | some q2 =>
    try dsimp only at h
    refine pE_gfS rfl rfl hq2 ?_
    obtain ⟨v3, hv3, h⟩ := obind h
    refine pE_aN rfl hv3 ?_
    refine pE_br (v3 ≤ v1) rfl rfl (fun c10 => ?_) (fun c10 => ?_)
    · rw [if_pos c10] at h
      refine pE_weak [none, none] trivial ?_
      exact f_Sheet_addFit_34 sp d N S _ h
    · rw [if_neg c10] at h
      refine pE_jump 1 (pc' := 13) (ls' := [some (.ref a), some (.int p0)]) (st' := [.ref a]) (fun _ => rfl) ?_
      obtain ⟨oq4, hq4, h⟩ := obind h
      cases oq4 with
      | none => cases h
      | some q4 =>
        try dsimp only at h
        refine pE_gfS rfl rfl hq4 ?_
        refine pE_jump 1 (pc' := 17) (ls' := [some (.ref a), some (.int p0)]) (st' := [.ref a, .ref q4]) (fun _ => rfl) ?_
        obtain ⟨v6, hv6, h⟩ := obind h
        refine pE_gfI rfl rfl hv6 ?_
        refine pE_jump 1 (pc' := 21) (ls' := [some (.ref a), some (.int p0)]) (st' := [.int p0, .int v6, .ref q4]) (fun _ => rfl) ?_
        obtain ⟨S7, hS7, h⟩ := obind h
        refine pE_is (Bs := [.ref q4, .int v6, .int p0]) (st := []) rfl rfl rfl (Nat.le_of_ble_eq_true rfl) (Nat.le_of_ble_eq_true rfl) (f_BP_setAt sp d N S q4 v6 p0 _ hS7) ?_
        refine pE_jump 2 (pc' := 26) (ls' := [some (.ref a), some (.int p0)]) (st' := [.ref a, .ref a]) (fun _ => rfl) ?_
        obtain ⟨v8, hv8, h⟩ := obind h
        refine pE_gfI rfl rfl hv8 ?_
        refine pE_jump 2 (pc' := 31) (ls' := [some (.ref a), some (.int p0)]) (st' := [.int (v8 + 1), .ref a]) (fun _ => rfl) ?_
        obtain ⟨S9, hS9, h⟩ := obind h
        refine pE_pf rfl rfl rfl hS9 ?_
        refine pE_weak [none, none] trivial ?_
        exact f_Sheet_addFit_34 sp d N S9 _ h
def F_Bench_findFits_58 (N : Nat)  (x2 : Nat) (S : pm_S) : Option pm_S :=
    (wF S x2 5 4 .boolean (.int 1)).bind fun S9 =>
    some S9
set_option maxHeartbeats 4000000 in
set_option maxRecDepth 20000 in
theorem f_Bench_findFits_58 (sp : pm_I → List Value → pm_S → pm_O → Prop) (d N : Nat)  (x2 : Nat) (S : pm_S)  (r : pm_S) (h : F_Bench_findFits_58 N  x2 S = some r) : pmE pG (pm_rel pG sp (d + 6)) mi_Bench_findFits 58 [none, none, some (.ref x2), none] [] S (none, r) := by
  unfold F_Bench_findFits_58 at h
  refine pE_jump 2 (pc' := 60) (ls' := [none, none, some (.ref x2), none]) (st' := [.int 1, .ref x2]) (fun _ => rfl) ?_
  obtain ⟨S9, hS9, h⟩ := obind h
  refine pE_pf rfl rfl rfl hS9 ?_
  cases h
  exact pE_ret rfl rfl rfl
def F_Bench_findFits_52 (N : Nat) (rec30 : Int32 → pm_S → Option pm_S) (x0 : Nat) (x1 : Nat) (x2 : Nat) (x3 : Int32) (S : pm_S) : Option pm_S :=
    rec30 (x3 + 1) S
set_option maxHeartbeats 4000000 in
set_option maxRecDepth 20000 in
theorem f_Bench_findFits_52 (sp : pm_I → List Value → pm_S → pm_O → Prop) (d N : Nat) (rec30 : Int32 → pm_S → Option pm_S) (x0 : Nat) (x1 : Nat) (x2 : Nat) (x3 : Int32) (S : pm_S) (hrec30 : ∀ (y1 : Int32) (U : pm_S) (r : pm_S), rec30 y1 U = some r → pmE pG (pm_rel pG sp (d + 6)) mi_Bench_findFits 30 [some (.ref x0), some (.ref x1), some (.ref x2), some (.int y1)] [] U (none, r)) (r : pm_S) (h : F_Bench_findFits_52 N rec30 x0 x1 x2 x3 S = some r) : pmE pG (pm_rel pG sp (d + 6)) mi_Bench_findFits 52 [some (.ref x0), some (.ref x1), some (.ref x2), some (.int x3)] [] S (none, r) := by
  unfold F_Bench_findFits_52 at h
  refine pE_jump 2 (pc' := 30) (ls' := [some (.ref x0), some (.ref x1), some (.ref x2), some (.int (x3 + 1))]) (st' := []) (fun _ => rfl) ?_
  exact hrec30 (x3 + 1) S _ h
def B_Bench_findFits_30 (N : Nat)  (rec30 : Int32 → pm_S → Option pm_S) (x0 : Nat) (x1 : Nat) (x2 : Nat) (x3 : Int32) (S : pm_S) : Option pm_S :=
    (F_Plan_worlds N S x1).bind fun (v8, S7) =>
    if v8 ≤ x3 then
    F_Bench_findFits_58 N x2 S7
    else
    ((F_Bench_fits N S7 x0 x1 x3).bind fun (v11, S10) =>
    if v11 = 0 then
    F_Bench_findFits_52 N rec30 x0 x1 x2 x3 S10
    else
    ((F_Sheet_addFit N S10 x2 x3).bind fun S12 =>
    F_Bench_findFits_52 N rec30 x0 x1 x2 x3 S12))
def F_Bench_findFits_30 (N : Nat)  (x0 : Nat) (x1 : Nat) (x2 : Nat) : Nat → Int32 → pm_S → Option pm_S
  | 0 => fun _ _ => none
  | n + 1 => fun x3 S => B_Bench_findFits_30 N  (F_Bench_findFits_30 N  x0 x1 x2 n) x0 x1 x2 x3 S
set_option maxHeartbeats 4000000 in
set_option maxRecDepth 20000 in
theorem f_Bench_findFits_30 (sp : pm_I → List Value → pm_S → pm_O → Prop) (d N : Nat)  (x0 : Nat) (x1 : Nat) (x2 : Nat)  : ∀ (n : Nat) (x3 : Int32) (S : pm_S) (r : pm_S), F_Bench_findFits_30 N  x0 x1 x2 n x3 S = some r → pmE pG (pm_rel pG sp (d + 6)) mi_Bench_findFits 30 [some (.ref x0), some (.ref x1), some (.ref x2), some (.int x3)] [] S (none, r) := by
  intro n
  induction n with
  | zero =>
    intro x3 S r h
    cases h
  | succ n ih =>
    intro x3 S r h
    replace h : B_Bench_findFits_30 N  (F_Bench_findFits_30 N  x0 x1 x2 n) x0 x1 x2 x3 S = some r := h
    have hrec30 := ih
    generalize F_Bench_findFits_30 N  x0 x1 x2 n = rec30 at h hrec30
    unfold B_Bench_findFits_30 at h
    refine pE_jump 2 (pc' := 32) (ls' := [some (.ref x0), some (.ref x1), some (.ref x2), some (.int x3)]) (st' := [.ref x1, .int x3]) (fun _ => rfl) ?_
    obtain ⟨⟨v8, S7⟩, hv8, h⟩ := obind h
    try dsimp only at h
    refine pE_iv (Bs := []) (st := [.int x3]) 1 rfl (Or.inl ⟨rfl, rfl⟩) rfl rfl (Nat.le_of_ble_eq_true rfl) (Nat.le_of_ble_eq_true rfl) (g_Plan_worlds hv8) (f_Plan_worlds sp (d + 4) N S x1 _ hv8) ?_
    refine pE_br (v8 ≤ x3) rfl rfl (fun c14 => ?_) (fun c14 => ?_)
    · rw [if_pos c14] at h
      refine pE_weak [none, none, some (.ref x2), none] ⟨rfl, trivial⟩ ?_
      exact f_Bench_findFits_58 sp d N x2 S7 _ h
    · rw [if_neg c14] at h
      refine pE_jump 3 (pc' := 41) (ls' := [some (.ref x0), some (.ref x1), some (.ref x2), some (.int x3)]) (st' := [.int x3, .ref x1, .ref x0]) (fun _ => rfl) ?_
      obtain ⟨⟨v11, S10⟩, hv11, h⟩ := obind h
      try dsimp only at h
      refine pE_iv (Bs := [.ref x1, .int x3]) (st := []) 1 rfl (Or.inl ⟨rfl, rfl⟩) rfl rfl (Nat.le_of_ble_eq_true rfl) (Nat.le_of_ble_eq_true rfl) (g_Bench_fits hv11) (f_Bench_fits sp (d + 3) N S7 x0 x1 x3 _ hv11) ?_
      refine pE_br (v11 = 0) rfl rfl (fun c13 => ?_) (fun c13 => ?_)
      · rw [if_pos c13] at h
        exact f_Bench_findFits_52 sp d N rec30 x0 x1 x2 x3 S10 hrec30 _ h
      · rw [if_neg c13] at h
        refine pE_jump 2 (pc' := 49) (ls' := [some (.ref x0), some (.ref x1), some (.ref x2), some (.int x3)]) (st' := [.int x3, .ref x2]) (fun _ => rfl) ?_
        obtain ⟨S12, hS12, h⟩ := obind h
        refine pE_iv (Bs := [.int x3]) (st := []) 1 rfl (Or.inl ⟨rfl, rfl⟩) rfl rfl (Nat.le_of_ble_eq_true rfl) (Nat.le_of_ble_eq_true rfl) (g_Sheet_addFit hS12) (f_Sheet_addFit sp (d + 4) N S10 x2 x3 _ hS12) ?_
        exact f_Bench_findFits_52 sp d N rec30 x0 x1 x2 x3 S12 hrec30 _ h
def F_Bench_findFits (N : Nat) (S : pm_S) (a : Nat) (p0 : Nat) : Option pm_S :=
    if rcv S a 0 = true then
    ((oR S p0 4 11).bind fun oq1 => match oq1 with
    | none => none
    | some q1 =>
    (oI S q1 5 4).bind fun v2 =>
    if v2 = 0 then
    ((F_Bench_columnsRead N S a p0).bind fun (v4, S3) =>
    (F_Bench_fill N S3 a p0 v4).bind fun S5 =>
    (wF S5 q1 5 3 .int (.int 0)).bind fun S6 =>
    F_Bench_findFits_30 N a p0 q1 N 0 S6)
    else
    some S)
    else none
theorem g_Bench_findFits {N : Nat} {S : pm_S} {a : Nat} {p0 : Nat} {r : pm_S} (h : F_Bench_findFits N S a p0 = some r) : rcv S a 0 = true := by
  unfold F_Bench_findFits at h
  by_cases c : rcv S a 0 = true
  · exact c
  · rw [if_neg c] at h; cases h
set_option maxHeartbeats 4000000 in
set_option maxRecDepth 20000 in
theorem f_Bench_findFits (sp : pm_I → List Value → pm_S → pm_O → Prop) (d N : Nat) (S : pm_S) (a : Nat) (p0 : Nat) (r : pm_S) (h : F_Bench_findFits N S a p0 = some r) : pm_rel pG sp (d + 7) mi_Bench_findFits [.ref a, .ref p0] S (none, r) := by
  have hg := g_Bench_findFits h
  unfold F_Bench_findFits at h
  rw [if_pos hg] at h
  refine pE_rel (d := d + 6) ?_
  show pmE pG _ mi_Bench_findFits 0 [some (.ref a), some (.ref p0), none, none] [] S _
  refine pE_jump 1 (pc' := 1) (ls' := [some (.ref a), some (.ref p0), none, none]) (st' := [.ref p0]) (fun _ => rfl) ?_
  obtain ⟨oq1, hq1, h⟩ := obind h
  cases oq1 with
  | none => cases h
  | some q1 =>
    try dsimp only at h
    refine pE_gfS rfl rfl hq1 ?_
    refine pE_jump 2 (pc' := 6) (ls' := [some (.ref a), some (.ref p0), some (.ref q1), none]) (st' := [.ref q1]) (fun _ => rfl) ?_
    obtain ⟨v2, hv2, h⟩ := obind h
    refine pE_gfI rfl rfl hv2 ?_
    refine pE_br (v2 = 0) rfl rfl (fun c15 => ?_) (fun c15 => ?_)
    · rw [if_pos c15] at h
      refine pE_jump 4 (pc' := 17) (ls' := [some (.ref a), some (.ref p0), some (.ref q1), none]) (st' := [.ref p0, .ref a, .ref p0, .ref a]) (fun _ => rfl) ?_
      obtain ⟨⟨v4, S3⟩, hv4, h⟩ := obind h
      try dsimp only at h
      refine pE_iv (Bs := [.ref p0]) (st := [.ref p0, .ref a]) 1 rfl (Or.inl ⟨rfl, rfl⟩) rfl rfl (Nat.le_of_ble_eq_true rfl) (Nat.le_of_ble_eq_true rfl) (g_Bench_columnsRead hv4) (f_Bench_columnsRead sp (d + 3) N S a p0 _ hv4) ?_
      obtain ⟨S5, hS5, h⟩ := obind h
      refine pE_iv (Bs := [.ref p0, .int v4]) (st := []) 1 rfl (Or.inl ⟨rfl, rfl⟩) rfl rfl (Nat.le_of_ble_eq_true rfl) (Nat.le_of_ble_eq_true rfl) (g_Bench_fill hS5) (f_Bench_fill sp d N S3 a p0 v4 _ hS5) ?_
      refine pE_jump 2 (pc' := 25) (ls' := [some (.ref a), some (.ref p0), some (.ref q1), none]) (st' := [.int 0, .ref q1]) (fun _ => rfl) ?_
      obtain ⟨S6, hS6, h⟩ := obind h
      refine pE_pf rfl rfl rfl hS6 ?_
      refine pE_jump 2 (pc' := 30) (ls' := [some (.ref a), some (.ref p0), some (.ref q1), some (.int 0)]) (st' := []) (fun _ => rfl) ?_
      exact f_Bench_findFits_30 sp d N a p0 q1 N 0 S6 _ h
    · rw [if_neg c15] at h
      cases h
      exact pE_ret rfl rfl rfl
def F_Sheet_fitAt_20 (N : Nat)  (t0 : Int32) (S : pm_S) : Option (Int32 × pm_S) :=
    some (t0, S)
set_option maxHeartbeats 4000000 in
set_option maxRecDepth 20000 in
theorem f_Sheet_fitAt_20 (sp : pm_I → List Value → pm_S → pm_O → Prop) (d N : Nat)  (t0 : Int32) (S : pm_S)  (r : (Int32 × pm_S)) (h : F_Sheet_fitAt_20 N  t0 S = some r) : pmE pG (pm_rel pG sp (d + 1)) mi_Sheet_fitAt 20 [none, none] [.int t0] S (some (.int r.1), r.2) := by
  unfold F_Sheet_fitAt_20 at h
  cases h
  exact pE_ret rfl rfl rfl
def F_Sheet_fitAt (N : Nat) (S : pm_S) (a : Nat) (p0 : Int32) : Option (Int32 × pm_S) :=
    if rcv S a 5 = true then
    ((oI S a 5 3).bind fun v1 =>
    if v1 ≤ p0 then
    F_Sheet_fitAt_20 N (-1) S
    else
    ((oR S a 5 1).bind fun oq2 => match oq2 with
    | none => none
    | some q2 =>
    (F_BP_valueAt N S q2 p0).bind fun (v4, S3) =>
    F_Sheet_fitAt_20 N v4 S3))
    else none
theorem g_Sheet_fitAt {N : Nat} {S : pm_S} {a : Nat} {p0 : Int32} {r : (Int32 × pm_S)} (h : F_Sheet_fitAt N S a p0 = some r) : rcv S a 5 = true := by
  unfold F_Sheet_fitAt at h
  by_cases c : rcv S a 5 = true
  · exact c
  · rw [if_neg c] at h; cases h
set_option maxHeartbeats 4000000 in
set_option maxRecDepth 20000 in
theorem f_Sheet_fitAt (sp : pm_I → List Value → pm_S → pm_O → Prop) (d N : Nat) (S : pm_S) (a : Nat) (p0 : Int32) (r : (Int32 × pm_S)) (h : F_Sheet_fitAt N S a p0 = some r) : pm_rel pG sp (d + 2) mi_Sheet_fitAt [.ref a, .int p0] S (some (.int r.1), r.2) := by
  have hg := g_Sheet_fitAt h
  unfold F_Sheet_fitAt at h
  rw [if_pos hg] at h
  refine pE_rel (d := d + 1) ?_
  show pmE pG _ mi_Sheet_fitAt 0 [some (.ref a), some (.int p0)] [] S _
  refine pE_jump 2 (pc' := 2) (ls' := [some (.ref a), some (.int p0)]) (st' := [.ref a, .int p0]) (fun _ => rfl) ?_
  obtain ⟨v1, hv1, h⟩ := obind h
  refine pE_gfI rfl rfl hv1 ?_
  refine pE_br (v1 ≤ p0) rfl rfl (fun c5 => ?_) (fun c5 => ?_)
  · rw [if_pos c5] at h
    refine pE_jump 1 (pc' := 20) (ls' := [some (.ref a), some (.int p0)]) (st' := [.int (-1)]) (fun _ => rfl) ?_
    refine pE_weak [none, none] trivial ?_
    exact f_Sheet_fitAt_20 sp d N (-1) S _ h
  · rw [if_neg c5] at h
    refine pE_jump 1 (pc' := 9) (ls' := [some (.ref a), some (.int p0)]) (st' := [.ref a]) (fun _ => rfl) ?_
    obtain ⟨oq2, hq2, h⟩ := obind h
    cases oq2 with
    | none => cases h
    | some q2 =>
      try dsimp only at h
      refine pE_gfS rfl rfl hq2 ?_
      refine pE_jump 1 (pc' := 13) (ls' := [some (.ref a), some (.int p0)]) (st' := [.int p0, .ref q2]) (fun _ => rfl) ?_
      obtain ⟨⟨v4, S3⟩, hv4, h⟩ := obind h
      try dsimp only at h
      refine pE_is (Bs := [.ref q2, .int p0]) (st := []) rfl rfl rfl (Nat.le_of_ble_eq_true rfl) (Nat.le_of_ble_eq_true rfl) (f_BP_valueAt sp d N S q2 p0 _ hv4) ?_
      refine pE_jump 1 (pc' := 20) (ls' := [some (.ref a), some (.int p0)]) (st' := [.int v4]) (fun _ => rfl) ?_
      refine pE_weak [none, none] trivial ?_
      exact f_Sheet_fitAt_20 sp d N v4 S3 _ h
def F_BP_fitting_43 (N : Nat)  (t0 : Int32) (S : pm_S) : Option (Int32 × pm_S) :=
    some (t0, S)
set_option maxHeartbeats 4000000 in
set_option maxRecDepth 20000 in
theorem f_BP_fitting_43 (sp : pm_I → List Value → pm_S → pm_O → Prop) (d N : Nat)  (t0 : Int32) (S : pm_S)  (r : (Int32 × pm_S)) (h : F_BP_fitting_43 N  t0 S = some r) : pmE pG (pm_rel pG sp (d + 7)) mi_BP_fitting 43 [none, none, none, none] [.int t0] S (some (.int r.1), r.2) := by
  unfold F_BP_fitting_43 at h
  cases h
  exact pE_ret rfl rfl rfl
def F_BP_fitting (N : Nat) (S : pm_S) (a : Nat) (p0 : Int32) (p1 : Int32) : Option (Int32 × pm_S) :=
    if rcv S a 10 = true then
    ((F_BP_planAt N S a p0).bind fun (oq2, S1) => match oq2 with
    | none => some ((-1), S1)
    | some q2 =>
    (oR S1 a 10 3).bind fun oq3 => match oq3 with
    | none => none
    | some q3 =>
    (F_Bench_findFits N S1 q3 q2).bind fun S4 =>
    if p1 = (-1) then
    ((oR S4 q2 4 11).bind fun oq5 => match oq5 with
    | none => none
    | some q5 =>
    (oI S4 q5 5 3).bind fun v6 =>
    F_BP_fitting_43 N v6 S4)
    else
    ((oR S4 q2 4 11).bind fun oq7 => match oq7 with
    | none => none
    | some q7 =>
    (F_Sheet_fitAt N S4 q7 p1).bind fun (v9, S8) =>
    F_BP_fitting_43 N v9 S8))
    else none
theorem g_BP_fitting {N : Nat} {S : pm_S} {a : Nat} {p0 : Int32} {p1 : Int32} {r : (Int32 × pm_S)} (h : F_BP_fitting N S a p0 p1 = some r) : rcv S a 10 = true := by
  unfold F_BP_fitting at h
  by_cases c : rcv S a 10 = true
  · exact c
  · rw [if_neg c] at h; cases h
set_option maxHeartbeats 4000000 in
set_option maxRecDepth 20000 in
theorem f_BP_fitting (sp : pm_I → List Value → pm_S → pm_O → Prop) (d N : Nat) (S : pm_S) (a : Nat) (p0 : Int32) (p1 : Int32) (r : (Int32 × pm_S)) (h : F_BP_fitting N S a p0 p1 = some r) : pm_rel pG sp (d + 8) mi_BP_fitting [.ref a, .int p0, .int p1] S (some (.int r.1), r.2) := by
  have hg := g_BP_fitting h
  unfold F_BP_fitting at h
  rw [if_pos hg] at h
  refine pE_rel (d := d + 7) ?_
  show pmE pG _ mi_BP_fitting 0 [some (.ref a), some (.int p0), some (.int p1), none] [] S _
  refine pE_jump 2 (pc' := 2) (ls' := [some (.ref a), some (.int p0), some (.int p1), none]) (st' := [.int p0, .ref a]) (fun _ => rfl) ?_
  obtain ⟨⟨oq2, S1⟩, hq2, h⟩ := obind h
  try dsimp only at h
  cases oq2 with
  | none =>
    try dsimp only at h
    refine pE_iv (Bs := [.int p0]) (st := []) 1 rfl (Or.inl ⟨rfl, rfl⟩) rfl rfl (Nat.le_of_ble_eq_true rfl) (Nat.le_of_ble_eq_true rfl) (g_BP_planAt hq2) (f_BP_planAt sp (d + 6) N S a p0 _ hq2) ?_
    refine pE_jump 4 (pc' := 11) (ls' := [some (.ref a), some (.int p0), some (.int p1), some (.null)]) (st' := [.int (-1)]) (fun _ => rfl) ?_
    cases h
    exact pE_ret rfl rfl rfl
  | some q2 =>
    try dsimp only at h
    refine pE_iv (Bs := [.int p0]) (st := []) 1 rfl (Or.inl ⟨rfl, rfl⟩) rfl rfl (Nat.le_of_ble_eq_true rfl) (Nat.le_of_ble_eq_true rfl) (g_BP_planAt hq2) (f_BP_planAt sp (d + 6) N S a p0 _ hq2) ?_
    refine pE_jump 4 (pc' := 13) (ls' := [some (.ref a), some (.int p0), some (.int p1), some (.ref q2)]) (st' := [.ref a]) (fun _ => rfl) ?_
    obtain ⟨oq3, hq3, h⟩ := obind h
    cases oq3 with
    | none => cases h
    | some q3 =>
      try dsimp only at h
      refine pE_gfS rfl rfl hq3 ?_
      refine pE_jump 1 (pc' := 17) (ls' := [some (.ref a), some (.int p0), some (.int p1), some (.ref q2)]) (st' := [.ref q2, .ref q3]) (fun _ => rfl) ?_
      obtain ⟨S4, hS4, h⟩ := obind h
      refine pE_iv (Bs := [.ref q2]) (st := []) 1 rfl (Or.inl ⟨rfl, rfl⟩) rfl rfl (Nat.le_of_ble_eq_true rfl) (Nat.le_of_ble_eq_true rfl) (g_Bench_findFits hS4) (f_Bench_findFits sp d N S1 q3 q2 _ hS4) ?_
      refine pE_jump 2 (pc' := 22) (ls' := [some (.ref a), some (.int p0), some (.int p1), some (.ref q2)]) (st' := [.int (-1), .int p1]) (fun _ => rfl) ?_
      refine pE_br (¬ p1 = (-1)) rfl rfl (fun c10 => ?_) (fun c10 => ?_)
      · rw [if_neg c10] at h
        refine pE_jump 1 (pc' := 36) (ls' := [some (.ref a), some (.int p0), some (.int p1), some (.ref q2)]) (st' := [.ref q2]) (fun _ => rfl) ?_
        obtain ⟨oq7, hq7, h⟩ := obind h
        cases oq7 with
        | none => cases h
        | some q7 =>
          try dsimp only at h
          refine pE_gfS rfl rfl hq7 ?_
          refine pE_jump 1 (pc' := 40) (ls' := [some (.ref a), some (.int p0), some (.int p1), some (.ref q2)]) (st' := [.int p1, .ref q7]) (fun _ => rfl) ?_
          obtain ⟨⟨v9, S8⟩, hv9, h⟩ := obind h
          try dsimp only at h
          refine pE_iv (Bs := [.int p1]) (st := []) 1 rfl (Or.inl ⟨rfl, rfl⟩) rfl rfl (Nat.le_of_ble_eq_true rfl) (Nat.le_of_ble_eq_true rfl) (g_Sheet_fitAt hv9) (f_Sheet_fitAt sp (d + 5) N S4 q7 p1 _ hv9) ?_
          refine pE_weak [none, none, none, none] trivial ?_
          exact f_BP_fitting_43 sp d N v9 S8 _ h
      · have c10 := Decidable.not_not.mp c10
        rw [if_pos c10] at h
        refine pE_jump 1 (pc' := 26) (ls' := [some (.ref a), some (.int p0), some (.int p1), some (.ref q2)]) (st' := [.ref q2]) (fun _ => rfl) ?_
        obtain ⟨oq5, hq5, h⟩ := obind h
        cases oq5 with
        | none => cases h
        | some q5 =>
          try dsimp only at h
          refine pE_gfS rfl rfl hq5 ?_
          obtain ⟨v6, hv6, h⟩ := obind h
          refine pE_gfI rfl rfl hv6 ?_
          refine pE_jump 1 (pc' := 43) (ls' := [some (.ref a), some (.int p0), some (.int p1), some (.ref q2)]) (st' := [.int v6]) (fun _ => rfl) ?_
          refine pE_weak [none, none, none, none] trivial ?_
          exact f_BP_fitting_43 sp d N v6 S4 _ h
def F_Int_bitCount (N : Nat) (S : pm_S) (p0 : Int32) : Option (Int32 × pm_S) :=
    some ((((((((p0 - (((p0.toUInt32 >>> (Int32.toUInt32 1 &&& Int32.toUInt32 31)).toInt32) &&& 1431655765)) &&& 858993459) + ((((p0 - (((p0.toUInt32 >>> (Int32.toUInt32 1 &&& Int32.toUInt32 31)).toInt32) &&& 1431655765)).toUInt32 >>> (Int32.toUInt32 2 &&& Int32.toUInt32 31)).toInt32) &&& 858993459)) + (((((p0 - (((p0.toUInt32 >>> (Int32.toUInt32 1 &&& Int32.toUInt32 31)).toInt32) &&& 1431655765)) &&& 858993459) + ((((p0 - (((p0.toUInt32 >>> (Int32.toUInt32 1 &&& Int32.toUInt32 31)).toInt32) &&& 1431655765)).toUInt32 >>> (Int32.toUInt32 2 &&& Int32.toUInt32 31)).toInt32) &&& 858993459)).toUInt32 >>> (Int32.toUInt32 4 &&& Int32.toUInt32 31)).toInt32)) &&& 252645135) + (((((((p0 - (((p0.toUInt32 >>> (Int32.toUInt32 1 &&& Int32.toUInt32 31)).toInt32) &&& 1431655765)) &&& 858993459) + ((((p0 - (((p0.toUInt32 >>> (Int32.toUInt32 1 &&& Int32.toUInt32 31)).toInt32) &&& 1431655765)).toUInt32 >>> (Int32.toUInt32 2 &&& Int32.toUInt32 31)).toInt32) &&& 858993459)) + (((((p0 - (((p0.toUInt32 >>> (Int32.toUInt32 1 &&& Int32.toUInt32 31)).toInt32) &&& 1431655765)) &&& 858993459) + ((((p0 - (((p0.toUInt32 >>> (Int32.toUInt32 1 &&& Int32.toUInt32 31)).toInt32) &&& 1431655765)).toUInt32 >>> (Int32.toUInt32 2 &&& Int32.toUInt32 31)).toInt32) &&& 858993459)).toUInt32 >>> (Int32.toUInt32 4 &&& Int32.toUInt32 31)).toInt32)) &&& 252645135).toUInt32 >>> (Int32.toUInt32 8 &&& Int32.toUInt32 31)).toInt32)) + ((((((((p0 - (((p0.toUInt32 >>> (Int32.toUInt32 1 &&& Int32.toUInt32 31)).toInt32) &&& 1431655765)) &&& 858993459) + ((((p0 - (((p0.toUInt32 >>> (Int32.toUInt32 1 &&& Int32.toUInt32 31)).toInt32) &&& 1431655765)).toUInt32 >>> (Int32.toUInt32 2 &&& Int32.toUInt32 31)).toInt32) &&& 858993459)) + (((((p0 - (((p0.toUInt32 >>> (Int32.toUInt32 1 &&& Int32.toUInt32 31)).toInt32) &&& 1431655765)) &&& 858993459) + ((((p0 - (((p0.toUInt32 >>> (Int32.toUInt32 1 &&& Int32.toUInt32 31)).toInt32) &&& 1431655765)).toUInt32 >>> (Int32.toUInt32 2 &&& Int32.toUInt32 31)).toInt32) &&& 858993459)).toUInt32 >>> (Int32.toUInt32 4 &&& Int32.toUInt32 31)).toInt32)) &&& 252645135) + (((((((p0 - (((p0.toUInt32 >>> (Int32.toUInt32 1 &&& Int32.toUInt32 31)).toInt32) &&& 1431655765)) &&& 858993459) + ((((p0 - (((p0.toUInt32 >>> (Int32.toUInt32 1 &&& Int32.toUInt32 31)).toInt32) &&& 1431655765)).toUInt32 >>> (Int32.toUInt32 2 &&& Int32.toUInt32 31)).toInt32) &&& 858993459)) + (((((p0 - (((p0.toUInt32 >>> (Int32.toUInt32 1 &&& Int32.toUInt32 31)).toInt32) &&& 1431655765)) &&& 858993459) + ((((p0 - (((p0.toUInt32 >>> (Int32.toUInt32 1 &&& Int32.toUInt32 31)).toInt32) &&& 1431655765)).toUInt32 >>> (Int32.toUInt32 2 &&& Int32.toUInt32 31)).toInt32) &&& 858993459)).toUInt32 >>> (Int32.toUInt32 4 &&& Int32.toUInt32 31)).toInt32)) &&& 252645135).toUInt32 >>> (Int32.toUInt32 8 &&& Int32.toUInt32 31)).toInt32)).toUInt32 >>> (Int32.toUInt32 16 &&& Int32.toUInt32 31)).toInt32)) &&& 63, S)
set_option maxHeartbeats 4000000 in
set_option maxRecDepth 20000 in
theorem f_Int_bitCount (sp : pm_I → List Value → pm_S → pm_O → Prop) (d N : Nat) (S : pm_S) (p0 : Int32) (r : (Int32 × pm_S)) (h : F_Int_bitCount N S p0 = some r) : pm_rel pG sp (d + 1) mi_Int_bitCount [.int p0] S (some (.int r.1), r.2) := by
  unfold F_Int_bitCount at h
  refine pE_rel (d := d + 0) ?_
  show pmE pG _ mi_Int_bitCount 0 [some (.int p0)] [] S _
  refine pE_jump 41 (pc' := 52) (ls' := [some (.int (((((((p0 - (((p0.toUInt32 >>> (Int32.toUInt32 1 &&& Int32.toUInt32 31)).toInt32) &&& 1431655765)) &&& 858993459) + ((((p0 - (((p0.toUInt32 >>> (Int32.toUInt32 1 &&& Int32.toUInt32 31)).toInt32) &&& 1431655765)).toUInt32 >>> (Int32.toUInt32 2 &&& Int32.toUInt32 31)).toInt32) &&& 858993459)) + (((((p0 - (((p0.toUInt32 >>> (Int32.toUInt32 1 &&& Int32.toUInt32 31)).toInt32) &&& 1431655765)) &&& 858993459) + ((((p0 - (((p0.toUInt32 >>> (Int32.toUInt32 1 &&& Int32.toUInt32 31)).toInt32) &&& 1431655765)).toUInt32 >>> (Int32.toUInt32 2 &&& Int32.toUInt32 31)).toInt32) &&& 858993459)).toUInt32 >>> (Int32.toUInt32 4 &&& Int32.toUInt32 31)).toInt32)) &&& 252645135) + (((((((p0 - (((p0.toUInt32 >>> (Int32.toUInt32 1 &&& Int32.toUInt32 31)).toInt32) &&& 1431655765)) &&& 858993459) + ((((p0 - (((p0.toUInt32 >>> (Int32.toUInt32 1 &&& Int32.toUInt32 31)).toInt32) &&& 1431655765)).toUInt32 >>> (Int32.toUInt32 2 &&& Int32.toUInt32 31)).toInt32) &&& 858993459)) + (((((p0 - (((p0.toUInt32 >>> (Int32.toUInt32 1 &&& Int32.toUInt32 31)).toInt32) &&& 1431655765)) &&& 858993459) + ((((p0 - (((p0.toUInt32 >>> (Int32.toUInt32 1 &&& Int32.toUInt32 31)).toInt32) &&& 1431655765)).toUInt32 >>> (Int32.toUInt32 2 &&& Int32.toUInt32 31)).toInt32) &&& 858993459)).toUInt32 >>> (Int32.toUInt32 4 &&& Int32.toUInt32 31)).toInt32)) &&& 252645135).toUInt32 >>> (Int32.toUInt32 8 &&& Int32.toUInt32 31)).toInt32)) + ((((((((p0 - (((p0.toUInt32 >>> (Int32.toUInt32 1 &&& Int32.toUInt32 31)).toInt32) &&& 1431655765)) &&& 858993459) + ((((p0 - (((p0.toUInt32 >>> (Int32.toUInt32 1 &&& Int32.toUInt32 31)).toInt32) &&& 1431655765)).toUInt32 >>> (Int32.toUInt32 2 &&& Int32.toUInt32 31)).toInt32) &&& 858993459)) + (((((p0 - (((p0.toUInt32 >>> (Int32.toUInt32 1 &&& Int32.toUInt32 31)).toInt32) &&& 1431655765)) &&& 858993459) + ((((p0 - (((p0.toUInt32 >>> (Int32.toUInt32 1 &&& Int32.toUInt32 31)).toInt32) &&& 1431655765)).toUInt32 >>> (Int32.toUInt32 2 &&& Int32.toUInt32 31)).toInt32) &&& 858993459)).toUInt32 >>> (Int32.toUInt32 4 &&& Int32.toUInt32 31)).toInt32)) &&& 252645135) + (((((((p0 - (((p0.toUInt32 >>> (Int32.toUInt32 1 &&& Int32.toUInt32 31)).toInt32) &&& 1431655765)) &&& 858993459) + ((((p0 - (((p0.toUInt32 >>> (Int32.toUInt32 1 &&& Int32.toUInt32 31)).toInt32) &&& 1431655765)).toUInt32 >>> (Int32.toUInt32 2 &&& Int32.toUInt32 31)).toInt32) &&& 858993459)) + (((((p0 - (((p0.toUInt32 >>> (Int32.toUInt32 1 &&& Int32.toUInt32 31)).toInt32) &&& 1431655765)) &&& 858993459) + ((((p0 - (((p0.toUInt32 >>> (Int32.toUInt32 1 &&& Int32.toUInt32 31)).toInt32) &&& 1431655765)).toUInt32 >>> (Int32.toUInt32 2 &&& Int32.toUInt32 31)).toInt32) &&& 858993459)).toUInt32 >>> (Int32.toUInt32 4 &&& Int32.toUInt32 31)).toInt32)) &&& 252645135).toUInt32 >>> (Int32.toUInt32 8 &&& Int32.toUInt32 31)).toInt32)).toUInt32 >>> (Int32.toUInt32 16 &&& Int32.toUInt32 31)).toInt32)))]) (st' := [.int ((((((((p0 - (((p0.toUInt32 >>> (Int32.toUInt32 1 &&& Int32.toUInt32 31)).toInt32) &&& 1431655765)) &&& 858993459) + ((((p0 - (((p0.toUInt32 >>> (Int32.toUInt32 1 &&& Int32.toUInt32 31)).toInt32) &&& 1431655765)).toUInt32 >>> (Int32.toUInt32 2 &&& Int32.toUInt32 31)).toInt32) &&& 858993459)) + (((((p0 - (((p0.toUInt32 >>> (Int32.toUInt32 1 &&& Int32.toUInt32 31)).toInt32) &&& 1431655765)) &&& 858993459) + ((((p0 - (((p0.toUInt32 >>> (Int32.toUInt32 1 &&& Int32.toUInt32 31)).toInt32) &&& 1431655765)).toUInt32 >>> (Int32.toUInt32 2 &&& Int32.toUInt32 31)).toInt32) &&& 858993459)).toUInt32 >>> (Int32.toUInt32 4 &&& Int32.toUInt32 31)).toInt32)) &&& 252645135) + (((((((p0 - (((p0.toUInt32 >>> (Int32.toUInt32 1 &&& Int32.toUInt32 31)).toInt32) &&& 1431655765)) &&& 858993459) + ((((p0 - (((p0.toUInt32 >>> (Int32.toUInt32 1 &&& Int32.toUInt32 31)).toInt32) &&& 1431655765)).toUInt32 >>> (Int32.toUInt32 2 &&& Int32.toUInt32 31)).toInt32) &&& 858993459)) + (((((p0 - (((p0.toUInt32 >>> (Int32.toUInt32 1 &&& Int32.toUInt32 31)).toInt32) &&& 1431655765)) &&& 858993459) + ((((p0 - (((p0.toUInt32 >>> (Int32.toUInt32 1 &&& Int32.toUInt32 31)).toInt32) &&& 1431655765)).toUInt32 >>> (Int32.toUInt32 2 &&& Int32.toUInt32 31)).toInt32) &&& 858993459)).toUInt32 >>> (Int32.toUInt32 4 &&& Int32.toUInt32 31)).toInt32)) &&& 252645135).toUInt32 >>> (Int32.toUInt32 8 &&& Int32.toUInt32 31)).toInt32)) + ((((((((p0 - (((p0.toUInt32 >>> (Int32.toUInt32 1 &&& Int32.toUInt32 31)).toInt32) &&& 1431655765)) &&& 858993459) + ((((p0 - (((p0.toUInt32 >>> (Int32.toUInt32 1 &&& Int32.toUInt32 31)).toInt32) &&& 1431655765)).toUInt32 >>> (Int32.toUInt32 2 &&& Int32.toUInt32 31)).toInt32) &&& 858993459)) + (((((p0 - (((p0.toUInt32 >>> (Int32.toUInt32 1 &&& Int32.toUInt32 31)).toInt32) &&& 1431655765)) &&& 858993459) + ((((p0 - (((p0.toUInt32 >>> (Int32.toUInt32 1 &&& Int32.toUInt32 31)).toInt32) &&& 1431655765)).toUInt32 >>> (Int32.toUInt32 2 &&& Int32.toUInt32 31)).toInt32) &&& 858993459)).toUInt32 >>> (Int32.toUInt32 4 &&& Int32.toUInt32 31)).toInt32)) &&& 252645135) + (((((((p0 - (((p0.toUInt32 >>> (Int32.toUInt32 1 &&& Int32.toUInt32 31)).toInt32) &&& 1431655765)) &&& 858993459) + ((((p0 - (((p0.toUInt32 >>> (Int32.toUInt32 1 &&& Int32.toUInt32 31)).toInt32) &&& 1431655765)).toUInt32 >>> (Int32.toUInt32 2 &&& Int32.toUInt32 31)).toInt32) &&& 858993459)) + (((((p0 - (((p0.toUInt32 >>> (Int32.toUInt32 1 &&& Int32.toUInt32 31)).toInt32) &&& 1431655765)) &&& 858993459) + ((((p0 - (((p0.toUInt32 >>> (Int32.toUInt32 1 &&& Int32.toUInt32 31)).toInt32) &&& 1431655765)).toUInt32 >>> (Int32.toUInt32 2 &&& Int32.toUInt32 31)).toInt32) &&& 858993459)).toUInt32 >>> (Int32.toUInt32 4 &&& Int32.toUInt32 31)).toInt32)) &&& 252645135).toUInt32 >>> (Int32.toUInt32 8 &&& Int32.toUInt32 31)).toInt32)).toUInt32 >>> (Int32.toUInt32 16 &&& Int32.toUInt32 31)).toInt32)) &&& 63)]) (fun _ => rfl) ?_
  cases h
  exact pE_ret rfl rfl rfl
def F_Sheet_comesBefore_46 (N : Nat)  (t0 : Int32) (S : pm_S) : Option (Int32 × pm_S) :=
    if t0 = 0 ∨ t0 = 1 then some (t0, S) else none
set_option maxHeartbeats 4000000 in
set_option maxRecDepth 20000 in
theorem f_Sheet_comesBefore_46 (sp : pm_I → List Value → pm_S → pm_O → Prop) (d N : Nat)  (t0 : Int32) (S : pm_S)  (r : (Int32 × pm_S)) (h : F_Sheet_comesBefore_46 N  t0 S = some r) : pmE pG (pm_rel pG sp (d + 1)) mi_Sheet_comesBefore 46 [none, none, none, none, none] [.int t0] S (some (.int r.1), r.2) := by
  unfold F_Sheet_comesBefore_46 at h
  by_cases c5 : t0 = 0 ∨ t0 = 1
  · rw [if_pos c5] at h
    cases h
    exact pE_ret rfl (if_pos c5) rfl
  · rw [if_neg c5] at h
    cases h
def F_Sheet_comesBefore_23 (N : Nat)  (t0 : Int32) (S : pm_S) : Option (Int32 × pm_S) :=
    if t0 = 0 ∨ t0 = 1 then some (t0, S) else none
set_option maxHeartbeats 4000000 in
set_option maxRecDepth 20000 in
theorem f_Sheet_comesBefore_23 (sp : pm_I → List Value → pm_S → pm_O → Prop) (d N : Nat)  (t0 : Int32) (S : pm_S)  (r : (Int32 × pm_S)) (h : F_Sheet_comesBefore_23 N  t0 S = some r) : pmE pG (pm_rel pG sp (d + 1)) mi_Sheet_comesBefore 23 [none, none, none, none, none] [.int t0] S (some (.int r.1), r.2) := by
  unfold F_Sheet_comesBefore_23 at h
  by_cases c7 : t0 = 0 ∨ t0 = 1
  · rw [if_pos c7] at h
    cases h
    exact pE_ret rfl (if_pos c7) rfl
  · rw [if_neg c7] at h
    cases h
def F_Sheet_comesBefore (N : Nat) (S : pm_S) (p0 : Int32) (p1 : Int32) : Option (Int32 × pm_S) :=
    (F_Int_bitCount N S p0).bind fun (v2, S1) =>
    (F_Int_bitCount N S1 p1).bind fun (v4, S3) =>
    if (v2 - v4) = 0 then
    (if (p0 &&& ((p0 ^^^ p1) &&& (-(p0 ^^^ p1)))) = 0 then
    F_Sheet_comesBefore_46 N 0 S3
    else
    F_Sheet_comesBefore_46 N 1 S3)
    else
    (if 0 ≤ (v2 - v4) then
    F_Sheet_comesBefore_23 N 0 S3
    else
    F_Sheet_comesBefore_23 N 1 S3)
set_option maxHeartbeats 4000000 in
set_option maxRecDepth 20000 in
theorem f_Sheet_comesBefore (sp : pm_I → List Value → pm_S → pm_O → Prop) (d N : Nat) (S : pm_S) (p0 : Int32) (p1 : Int32) (r : (Int32 × pm_S)) (h : F_Sheet_comesBefore N S p0 p1 = some r) : pm_rel pG sp (d + 2) mi_Sheet_comesBefore [.int p0, .int p1] S (some (.int r.1), r.2) := by
  unfold F_Sheet_comesBefore at h
  refine pE_rel (d := d + 1) ?_
  show pmE pG _ mi_Sheet_comesBefore 0 [some (.int p0), some (.int p1), none, none, none] [] S _
  refine pE_jump 1 (pc' := 1) (ls' := [some (.int p0), some (.int p1), none, none, none]) (st' := [.int p0]) (fun _ => rfl) ?_
  obtain ⟨⟨v2, S1⟩, hv2, h⟩ := obind h
  try dsimp only at h
  refine pE_is (Bs := [.int p0]) (st := []) rfl rfl rfl (Nat.le_of_ble_eq_true rfl) (Nat.le_of_ble_eq_true rfl) (f_Int_bitCount sp d N S p0 _ hv2) ?_
  refine pE_jump 1 (pc' := 5) (ls' := [some (.int p0), some (.int p1), none, none, none]) (st' := [.int p1, .int v2]) (fun _ => rfl) ?_
  obtain ⟨⟨v4, S3⟩, hv4, h⟩ := obind h
  try dsimp only at h
  refine pE_is (Bs := [.int p1]) (st := [.int v2]) rfl rfl rfl (Nat.le_of_ble_eq_true rfl) (Nat.le_of_ble_eq_true rfl) (f_Int_bitCount sp d N S1 p1 _ hv4) ?_
  refine pE_jump 3 (pc' := 11) (ls' := [some (.int p0), some (.int p1), some (.int (v2 - v4)), none, none]) (st' := [.int (v2 - v4)]) (fun _ => rfl) ?_
  refine pE_br ((v2 - v4) = 0) rfl rfl (fun c9 => ?_) (fun c9 => ?_)
  · rw [if_pos c9] at h
    refine pE_jump 12 (pc' := 38) (ls' := [some (.int p0), some (.int p1), some (.int (v2 - v4)), some (.int (p0 ^^^ p1)), some (.int ((p0 ^^^ p1) &&& (-(p0 ^^^ p1))))]) (st' := [.int (p0 &&& ((p0 ^^^ p1) &&& (-(p0 ^^^ p1))))]) (fun _ => rfl) ?_
    refine pE_br ((p0 &&& ((p0 ^^^ p1) &&& (-(p0 ^^^ p1)))) = 0) rfl rfl (fun c6 => ?_) (fun c6 => ?_)
    · rw [if_pos c6] at h
      refine pE_jump 1 (pc' := 46) (ls' := [some (.int p0), some (.int p1), some (.int (v2 - v4)), some (.int (p0 ^^^ p1)), some (.int ((p0 ^^^ p1) &&& (-(p0 ^^^ p1))))]) (st' := [.int 0]) (fun _ => rfl) ?_
      refine pE_weak [none, none, none, none, none] trivial ?_
      exact f_Sheet_comesBefore_46 sp d N 0 S3 _ h
    · rw [if_neg c6] at h
      refine pE_jump 2 (pc' := 46) (ls' := [some (.int p0), some (.int p1), some (.int (v2 - v4)), some (.int (p0 ^^^ p1)), some (.int ((p0 ^^^ p1) &&& (-(p0 ^^^ p1))))]) (st' := [.int 1]) (fun _ => rfl) ?_
      refine pE_weak [none, none, none, none, none] trivial ?_
      exact f_Sheet_comesBefore_46 sp d N 1 S3 _ h
  · rw [if_neg c9] at h
    refine pE_jump 1 (pc' := 15) (ls' := [some (.int p0), some (.int p1), some (.int (v2 - v4)), none, none]) (st' := [.int (v2 - v4)]) (fun _ => rfl) ?_
    refine pE_br (0 ≤ (v2 - v4)) rfl rfl (fun c8 => ?_) (fun c8 => ?_)
    · rw [if_pos c8] at h
      refine pE_jump 1 (pc' := 23) (ls' := [some (.int p0), some (.int p1), some (.int (v2 - v4)), none, none]) (st' := [.int 0]) (fun _ => rfl) ?_
      refine pE_weak [none, none, none, none, none] trivial ?_
      exact f_Sheet_comesBefore_23 sp d N 0 S3 _ h
    · rw [if_neg c8] at h
      refine pE_jump 2 (pc' := 23) (ls' := [some (.int p0), some (.int p1), some (.int (v2 - v4)), none, none]) (st' := [.int 1]) (fun _ => rfl) ?_
      refine pE_weak [none, none, none, none, none] trivial ?_
      exact f_Sheet_comesBefore_23 sp d N 1 S3 _ h
def F_Sheet_smallest_40 (N : Nat)  (x1 : Int32) (S : pm_S) : Option (Int32 × pm_S) :=
    some (x1, S)
set_option maxHeartbeats 4000000 in
set_option maxRecDepth 20000 in
theorem f_Sheet_smallest_40 (sp : pm_I → List Value → pm_S → pm_O → Prop) (d N : Nat)  (x1 : Int32) (S : pm_S)  (r : (Int32 × pm_S)) (h : F_Sheet_smallest_40 N  x1 S = some r) : pmE pG (pm_rel pG sp (d + 2)) mi_Sheet_smallest 40 [none, some (.int x1), none] [] S (some (.int r.1), r.2) := by
  unfold F_Sheet_smallest_40 at h
  refine pE_jump 1 (pc' := 41) (ls' := [none, some (.int x1), none]) (st' := [.int x1]) (fun _ => rfl) ?_
  cases h
  exact pE_ret rfl rfl rfl
def F_Sheet_smallest_34 (N : Nat) (rec8 : Int32 → Int32 → pm_S → Option (Int32 × pm_S)) (x0 : Nat) (x1 : Int32) (x2 : Int32) (S : pm_S) : Option (Int32 × pm_S) :=
    rec8 x1 (x2 + 1) S
set_option maxHeartbeats 4000000 in
set_option maxRecDepth 20000 in
theorem f_Sheet_smallest_34 (sp : pm_I → List Value → pm_S → pm_O → Prop) (d N : Nat) (rec8 : Int32 → Int32 → pm_S → Option (Int32 × pm_S)) (x0 : Nat) (x1 : Int32) (x2 : Int32) (S : pm_S) (hrec8 : ∀ (y1 : Int32) (y2 : Int32) (U : pm_S) (r : (Int32 × pm_S)), rec8 y1 y2 U = some r → pmE pG (pm_rel pG sp (d + 2)) mi_Sheet_smallest 8 [some (.ref x0), some (.int y1), some (.int y2)] [] U (some (.int r.1), r.2)) (r : (Int32 × pm_S)) (h : F_Sheet_smallest_34 N rec8 x0 x1 x2 S = some r) : pmE pG (pm_rel pG sp (d + 2)) mi_Sheet_smallest 34 [some (.ref x0), some (.int x1), some (.int x2)] [] S (some (.int r.1), r.2) := by
  unfold F_Sheet_smallest_34 at h
  refine pE_jump 2 (pc' := 8) (ls' := [some (.ref x0), some (.int x1), some (.int (x2 + 1))]) (st' := []) (fun _ => rfl) ?_
  exact hrec8 x1 (x2 + 1) S _ h
def B_Sheet_smallest_8 (N : Nat)  (rec8 : Int32 → Int32 → pm_S → Option (Int32 × pm_S)) (x0 : Nat) (x1 : Int32) (x2 : Int32) (S : pm_S) : Option (Int32 × pm_S) :=
    (oI S x0 5 3).bind fun v3 =>
    if v3 ≤ x2 then
    F_Sheet_smallest_40 N x1 S
    else
    ((F_Sheet_fitAt N S x0 x2).bind fun (v5, S4) =>
    (F_Sheet_comesBefore N S4 v5 x1).bind fun (v7, S6) =>
    if v7 = 0 then
    F_Sheet_smallest_34 N rec8 x0 x1 x2 S6
    else
    ((F_Sheet_fitAt N S6 x0 x2).bind fun (v9, S8) =>
    F_Sheet_smallest_34 N rec8 x0 v9 x2 S8))
def F_Sheet_smallest_8 (N : Nat)  (x0 : Nat) : Nat → Int32 → Int32 → pm_S → Option (Int32 × pm_S)
  | 0 => fun _ _ _ => none
  | n + 1 => fun x1 x2 S => B_Sheet_smallest_8 N  (F_Sheet_smallest_8 N  x0 n) x0 x1 x2 S
set_option maxHeartbeats 4000000 in
set_option maxRecDepth 20000 in
theorem f_Sheet_smallest_8 (sp : pm_I → List Value → pm_S → pm_O → Prop) (d N : Nat)  (x0 : Nat)  : ∀ (n : Nat) (x1 : Int32) (x2 : Int32) (S : pm_S) (r : (Int32 × pm_S)), F_Sheet_smallest_8 N  x0 n x1 x2 S = some r → pmE pG (pm_rel pG sp (d + 2)) mi_Sheet_smallest 8 [some (.ref x0), some (.int x1), some (.int x2)] [] S (some (.int r.1), r.2) := by
  intro n
  induction n with
  | zero =>
    intro x1 x2 S r h
    cases h
  | succ n ih =>
    intro x1 x2 S r h
    replace h : B_Sheet_smallest_8 N  (F_Sheet_smallest_8 N  x0 n) x0 x1 x2 S = some r := h
    have hrec8 := ih
    generalize F_Sheet_smallest_8 N  x0 n = rec8 at h hrec8
    unfold B_Sheet_smallest_8 at h
    refine pE_jump 2 (pc' := 10) (ls' := [some (.ref x0), some (.int x1), some (.int x2)]) (st' := [.ref x0, .int x2]) (fun _ => rfl) ?_
    obtain ⟨v3, hv3, h⟩ := obind h
    refine pE_gfI rfl rfl hv3 ?_
    refine pE_br (v3 ≤ x2) rfl rfl (fun c11 => ?_) (fun c11 => ?_)
    · rw [if_pos c11] at h
      refine pE_weak [none, some (.int x1), none] ⟨rfl, trivial⟩ ?_
      exact f_Sheet_smallest_40 sp d N x1 S _ h
    · rw [if_neg c11] at h
      refine pE_jump 2 (pc' := 18) (ls' := [some (.ref x0), some (.int x1), some (.int x2)]) (st' := [.int x2, .ref x0]) (fun _ => rfl) ?_
      obtain ⟨⟨v5, S4⟩, hv5, h⟩ := obind h
      try dsimp only at h
      refine pE_iv (Bs := [.int x2]) (st := []) 1 rfl (Or.inl ⟨rfl, rfl⟩) rfl rfl (Nat.le_of_ble_eq_true rfl) (Nat.le_of_ble_eq_true rfl) (g_Sheet_fitAt hv5) (f_Sheet_fitAt sp d N S x0 x2 _ hv5) ?_
      refine pE_jump 1 (pc' := 22) (ls' := [some (.ref x0), some (.int x1), some (.int x2)]) (st' := [.int x1, .int v5]) (fun _ => rfl) ?_
      obtain ⟨⟨v7, S6⟩, hv7, h⟩ := obind h
      try dsimp only at h
      refine pE_is (Bs := [.int v5, .int x1]) (st := []) rfl rfl rfl (Nat.le_of_ble_eq_true rfl) (Nat.le_of_ble_eq_true rfl) (f_Sheet_comesBefore sp d N S4 v5 x1 _ hv7) ?_
      refine pE_br (v7 = 0) rfl rfl (fun c10 => ?_) (fun c10 => ?_)
      · rw [if_pos c10] at h
        exact f_Sheet_smallest_34 sp d N rec8 x0 x1 x2 S6 hrec8 _ h
      · rw [if_neg c10] at h
        refine pE_jump 2 (pc' := 30) (ls' := [some (.ref x0), some (.int x1), some (.int x2)]) (st' := [.int x2, .ref x0]) (fun _ => rfl) ?_
        obtain ⟨⟨v9, S8⟩, hv9, h⟩ := obind h
        try dsimp only at h
        refine pE_iv (Bs := [.int x2]) (st := []) 1 rfl (Or.inl ⟨rfl, rfl⟩) rfl rfl (Nat.le_of_ble_eq_true rfl) (Nat.le_of_ble_eq_true rfl) (g_Sheet_fitAt hv9) (f_Sheet_fitAt sp d N S6 x0 x2 _ hv9) ?_
        refine pE_jump 1 (pc' := 34) (ls' := [some (.ref x0), some (.int v9), some (.int x2)]) (st' := []) (fun _ => rfl) ?_
        exact f_Sheet_smallest_34 sp d N rec8 x0 v9 x2 S8 hrec8 _ h
def F_Sheet_smallest (N : Nat) (S : pm_S) (a : Nat) : Option (Int32 × pm_S) :=
    if rcv S a 5 = true then
    ((F_Sheet_fitAt N S a 0).bind fun (v2, S1) =>
    F_Sheet_smallest_8 N a N v2 1 S1)
    else none
theorem g_Sheet_smallest {N : Nat} {S : pm_S} {a : Nat} {r : (Int32 × pm_S)} (h : F_Sheet_smallest N S a = some r) : rcv S a 5 = true := by
  unfold F_Sheet_smallest at h
  by_cases c : rcv S a 5 = true
  · exact c
  · rw [if_neg c] at h; cases h
set_option maxHeartbeats 4000000 in
set_option maxRecDepth 20000 in
theorem f_Sheet_smallest (sp : pm_I → List Value → pm_S → pm_O → Prop) (d N : Nat) (S : pm_S) (a : Nat) (r : (Int32 × pm_S)) (h : F_Sheet_smallest N S a = some r) : pm_rel pG sp (d + 3) mi_Sheet_smallest [.ref a] S (some (.int r.1), r.2) := by
  have hg := g_Sheet_smallest h
  unfold F_Sheet_smallest at h
  rw [if_pos hg] at h
  refine pE_rel (d := d + 2) ?_
  show pmE pG _ mi_Sheet_smallest 0 [some (.ref a), none, none] [] S _
  refine pE_jump 2 (pc' := 2) (ls' := [some (.ref a), none, none]) (st' := [.int 0, .ref a]) (fun _ => rfl) ?_
  obtain ⟨⟨v2, S1⟩, hv2, h⟩ := obind h
  try dsimp only at h
  refine pE_iv (Bs := [.int 0]) (st := []) 1 rfl (Or.inl ⟨rfl, rfl⟩) rfl rfl (Nat.le_of_ble_eq_true rfl) (Nat.le_of_ble_eq_true rfl) (g_Sheet_fitAt hv2) (f_Sheet_fitAt sp d N S a 0 _ hv2) ?_
  refine pE_jump 3 (pc' := 8) (ls' := [some (.ref a), some (.int v2), some (.int 1)]) (st' := []) (fun _ => rfl) ?_
  exact f_Sheet_smallest_8 sp d N a N v2 1 S1 _ h
def F_BP_fewest (N : Nat) (S : pm_S) (a : Nat) (p0 : Int32) : Option (Int32 × pm_S) :=
    if rcv S a 10 = true then
    ((F_BP_planAt N S a p0).bind fun (oq2, S1) => match oq2 with
    | none => some ((-1), S1)
    | some q2 =>
    (oR S1 a 10 3).bind fun oq3 => match oq3 with
    | none => none
    | some q3 =>
    (F_Bench_findFits N S1 q3 q2).bind fun S4 =>
    (oR S4 q2 4 11).bind fun oq5 => match oq5 with
    | none => none
    | some q5 =>
    (F_Sheet_smallest N S4 q5).bind fun (v7, S6) =>
    some (v7, S6))
    else none
theorem g_BP_fewest {N : Nat} {S : pm_S} {a : Nat} {p0 : Int32} {r : (Int32 × pm_S)} (h : F_BP_fewest N S a p0 = some r) : rcv S a 10 = true := by
  unfold F_BP_fewest at h
  by_cases c : rcv S a 10 = true
  · exact c
  · rw [if_neg c] at h; cases h
set_option maxHeartbeats 4000000 in
set_option maxRecDepth 20000 in
theorem f_BP_fewest (sp : pm_I → List Value → pm_S → pm_O → Prop) (d N : Nat) (S : pm_S) (a : Nat) (p0 : Int32) (r : (Int32 × pm_S)) (h : F_BP_fewest N S a p0 = some r) : pm_rel pG sp (d + 8) mi_BP_fewest [.ref a, .int p0] S (some (.int r.1), r.2) := by
  have hg := g_BP_fewest h
  unfold F_BP_fewest at h
  rw [if_pos hg] at h
  refine pE_rel (d := d + 7) ?_
  show pmE pG _ mi_BP_fewest 0 [some (.ref a), some (.int p0), none] [] S _
  refine pE_jump 2 (pc' := 2) (ls' := [some (.ref a), some (.int p0), none]) (st' := [.int p0, .ref a]) (fun _ => rfl) ?_
  obtain ⟨⟨oq2, S1⟩, hq2, h⟩ := obind h
  try dsimp only at h
  cases oq2 with
  | none =>
    try dsimp only at h
    refine pE_iv (Bs := [.int p0]) (st := []) 1 rfl (Or.inl ⟨rfl, rfl⟩) rfl rfl (Nat.le_of_ble_eq_true rfl) (Nat.le_of_ble_eq_true rfl) (g_BP_planAt hq2) (f_BP_planAt sp (d + 6) N S a p0 _ hq2) ?_
    refine pE_jump 4 (pc' := 11) (ls' := [some (.ref a), some (.int p0), some (.null)]) (st' := [.int (-1)]) (fun _ => rfl) ?_
    cases h
    exact pE_ret rfl rfl rfl
  | some q2 =>
    try dsimp only at h
    refine pE_iv (Bs := [.int p0]) (st := []) 1 rfl (Or.inl ⟨rfl, rfl⟩) rfl rfl (Nat.le_of_ble_eq_true rfl) (Nat.le_of_ble_eq_true rfl) (g_BP_planAt hq2) (f_BP_planAt sp (d + 6) N S a p0 _ hq2) ?_
    refine pE_jump 4 (pc' := 13) (ls' := [some (.ref a), some (.int p0), some (.ref q2)]) (st' := [.ref a]) (fun _ => rfl) ?_
    obtain ⟨oq3, hq3, h⟩ := obind h
    cases oq3 with
    | none => cases h
    | some q3 =>
      try dsimp only at h
      refine pE_gfS rfl rfl hq3 ?_
      refine pE_jump 1 (pc' := 17) (ls' := [some (.ref a), some (.int p0), some (.ref q2)]) (st' := [.ref q2, .ref q3]) (fun _ => rfl) ?_
      obtain ⟨S4, hS4, h⟩ := obind h
      refine pE_iv (Bs := [.ref q2]) (st := []) 1 rfl (Or.inl ⟨rfl, rfl⟩) rfl rfl (Nat.le_of_ble_eq_true rfl) (Nat.le_of_ble_eq_true rfl) (g_Bench_findFits hS4) (f_Bench_findFits sp d N S1 q3 q2 _ hS4) ?_
      refine pE_jump 1 (pc' := 21) (ls' := [some (.ref a), some (.int p0), some (.ref q2)]) (st' := [.ref q2]) (fun _ => rfl) ?_
      obtain ⟨oq5, hq5, h⟩ := obind h
      cases oq5 with
      | none => cases h
      | some q5 =>
        try dsimp only at h
        refine pE_gfS rfl rfl hq5 ?_
        obtain ⟨⟨v7, S6⟩, hv7, h⟩ := obind h
        try dsimp only at h
        refine pE_iv (Bs := []) (st := []) 1 rfl (Or.inl ⟨rfl, rfl⟩) rfl rfl (Nat.le_of_ble_eq_true rfl) (Nat.le_of_ble_eq_true rfl) (g_Sheet_smallest hv7) (f_Sheet_smallest sp (d + 4) N S4 q5 _ hv7) ?_
        cases h
        exact pE_ret rfl rfl rfl
def F_Sheet_inAll_30 (N : Nat)  (x1 : Int32) (S : pm_S) : Option (Int32 × pm_S) :=
    some (x1, S)
set_option maxHeartbeats 4000000 in
set_option maxRecDepth 20000 in
theorem f_Sheet_inAll_30 (sp : pm_I → List Value → pm_S → pm_O → Prop) (d N : Nat)  (x1 : Int32) (S : pm_S)  (r : (Int32 × pm_S)) (h : F_Sheet_inAll_30 N  x1 S = some r) : pmE pG (pm_rel pG sp (d + 2)) mi_Sheet_inAll 30 [none, some (.int x1), none] [] S (some (.int r.1), r.2) := by
  unfold F_Sheet_inAll_30 at h
  refine pE_jump 1 (pc' := 31) (ls' := [none, some (.int x1), none]) (st' := [.int x1]) (fun _ => rfl) ?_
  cases h
  exact pE_ret rfl rfl rfl
def B_Sheet_inAll_8 (N : Nat)  (rec8 : Int32 → Int32 → pm_S → Option (Int32 × pm_S)) (x0 : Nat) (x1 : Int32) (x2 : Int32) (S : pm_S) : Option (Int32 × pm_S) :=
    (oI S x0 5 3).bind fun v3 =>
    if v3 ≤ x2 then
    F_Sheet_inAll_30 N x1 S
    else
    ((F_Sheet_fitAt N S x0 x2).bind fun (v5, S4) =>
    rec8 (x1 &&& v5) (x2 + 1) S4)
def F_Sheet_inAll_8 (N : Nat)  (x0 : Nat) : Nat → Int32 → Int32 → pm_S → Option (Int32 × pm_S)
  | 0 => fun _ _ _ => none
  | n + 1 => fun x1 x2 S => B_Sheet_inAll_8 N  (F_Sheet_inAll_8 N  x0 n) x0 x1 x2 S
set_option maxHeartbeats 4000000 in
set_option maxRecDepth 20000 in
theorem f_Sheet_inAll_8 (sp : pm_I → List Value → pm_S → pm_O → Prop) (d N : Nat)  (x0 : Nat)  : ∀ (n : Nat) (x1 : Int32) (x2 : Int32) (S : pm_S) (r : (Int32 × pm_S)), F_Sheet_inAll_8 N  x0 n x1 x2 S = some r → pmE pG (pm_rel pG sp (d + 2)) mi_Sheet_inAll 8 [some (.ref x0), some (.int x1), some (.int x2)] [] S (some (.int r.1), r.2) := by
  intro n
  induction n with
  | zero =>
    intro x1 x2 S r h
    cases h
  | succ n ih =>
    intro x1 x2 S r h
    replace h : B_Sheet_inAll_8 N  (F_Sheet_inAll_8 N  x0 n) x0 x1 x2 S = some r := h
    have hrec8 := ih
    generalize F_Sheet_inAll_8 N  x0 n = rec8 at h hrec8
    unfold B_Sheet_inAll_8 at h
    refine pE_jump 2 (pc' := 10) (ls' := [some (.ref x0), some (.int x1), some (.int x2)]) (st' := [.ref x0, .int x2]) (fun _ => rfl) ?_
    obtain ⟨v3, hv3, h⟩ := obind h
    refine pE_gfI rfl rfl hv3 ?_
    refine pE_br (v3 ≤ x2) rfl rfl (fun c6 => ?_) (fun c6 => ?_)
    · rw [if_pos c6] at h
      refine pE_weak [none, some (.int x1), none] ⟨rfl, trivial⟩ ?_
      exact f_Sheet_inAll_30 sp d N x1 S _ h
    · rw [if_neg c6] at h
      refine pE_jump 3 (pc' := 19) (ls' := [some (.ref x0), some (.int x1), some (.int x2)]) (st' := [.int x2, .ref x0, .int x1]) (fun _ => rfl) ?_
      obtain ⟨⟨v5, S4⟩, hv5, h⟩ := obind h
      try dsimp only at h
      refine pE_iv (Bs := [.int x2]) (st := [.int x1]) 1 rfl (Or.inl ⟨rfl, rfl⟩) rfl rfl (Nat.le_of_ble_eq_true rfl) (Nat.le_of_ble_eq_true rfl) (g_Sheet_fitAt hv5) (f_Sheet_fitAt sp d N S x0 x2 _ hv5) ?_
      refine pE_jump 4 (pc' := 8) (ls' := [some (.ref x0), some (.int (x1 &&& v5)), some (.int (x2 + 1))]) (st' := []) (fun _ => rfl) ?_
      exact hrec8 (x1 &&& v5) (x2 + 1) S4 _ h
def F_Sheet_inAll (N : Nat) (S : pm_S) (a : Nat) : Option (Int32 × pm_S) :=
    if rcv S a 5 = true then
    ((F_Sheet_fitAt N S a 0).bind fun (v2, S1) =>
    F_Sheet_inAll_8 N a N v2 1 S1)
    else none
theorem g_Sheet_inAll {N : Nat} {S : pm_S} {a : Nat} {r : (Int32 × pm_S)} (h : F_Sheet_inAll N S a = some r) : rcv S a 5 = true := by
  unfold F_Sheet_inAll at h
  by_cases c : rcv S a 5 = true
  · exact c
  · rw [if_neg c] at h; cases h
set_option maxHeartbeats 4000000 in
set_option maxRecDepth 20000 in
theorem f_Sheet_inAll (sp : pm_I → List Value → pm_S → pm_O → Prop) (d N : Nat) (S : pm_S) (a : Nat) (r : (Int32 × pm_S)) (h : F_Sheet_inAll N S a = some r) : pm_rel pG sp (d + 3) mi_Sheet_inAll [.ref a] S (some (.int r.1), r.2) := by
  have hg := g_Sheet_inAll h
  unfold F_Sheet_inAll at h
  rw [if_pos hg] at h
  refine pE_rel (d := d + 2) ?_
  show pmE pG _ mi_Sheet_inAll 0 [some (.ref a), none, none] [] S _
  refine pE_jump 2 (pc' := 2) (ls' := [some (.ref a), none, none]) (st' := [.int 0, .ref a]) (fun _ => rfl) ?_
  obtain ⟨⟨v2, S1⟩, hv2, h⟩ := obind h
  try dsimp only at h
  refine pE_iv (Bs := [.int 0]) (st := []) 1 rfl (Or.inl ⟨rfl, rfl⟩) rfl rfl (Nat.le_of_ble_eq_true rfl) (Nat.le_of_ble_eq_true rfl) (g_Sheet_fitAt hv2) (f_Sheet_fitAt sp d N S a 0 _ hv2) ?_
  refine pE_jump 3 (pc' := 8) (ls' := [some (.ref a), some (.int v2), some (.int 1)]) (st' := []) (fun _ => rfl) ?_
  exact f_Sheet_inAll_8 sp d N a N v2 1 S1 _ h
def F_Sheet_inSome_30 (N : Nat)  (x1 : Int32) (S : pm_S) : Option (Int32 × pm_S) :=
    some (x1, S)
set_option maxHeartbeats 4000000 in
set_option maxRecDepth 20000 in
theorem f_Sheet_inSome_30 (sp : pm_I → List Value → pm_S → pm_O → Prop) (d N : Nat)  (x1 : Int32) (S : pm_S)  (r : (Int32 × pm_S)) (h : F_Sheet_inSome_30 N  x1 S = some r) : pmE pG (pm_rel pG sp (d + 2)) mi_Sheet_inSome 30 [none, some (.int x1), none] [] S (some (.int r.1), r.2) := by
  unfold F_Sheet_inSome_30 at h
  refine pE_jump 1 (pc' := 31) (ls' := [none, some (.int x1), none]) (st' := [.int x1]) (fun _ => rfl) ?_
  cases h
  exact pE_ret rfl rfl rfl
def B_Sheet_inSome_8 (N : Nat)  (rec8 : Int32 → Int32 → pm_S → Option (Int32 × pm_S)) (x0 : Nat) (x1 : Int32) (x2 : Int32) (S : pm_S) : Option (Int32 × pm_S) :=
    (oI S x0 5 3).bind fun v3 =>
    if v3 ≤ x2 then
    F_Sheet_inSome_30 N x1 S
    else
    ((F_Sheet_fitAt N S x0 x2).bind fun (v5, S4) =>
    rec8 (x1 ||| v5) (x2 + 1) S4)
def F_Sheet_inSome_8 (N : Nat)  (x0 : Nat) : Nat → Int32 → Int32 → pm_S → Option (Int32 × pm_S)
  | 0 => fun _ _ _ => none
  | n + 1 => fun x1 x2 S => B_Sheet_inSome_8 N  (F_Sheet_inSome_8 N  x0 n) x0 x1 x2 S
set_option maxHeartbeats 4000000 in
set_option maxRecDepth 20000 in
theorem f_Sheet_inSome_8 (sp : pm_I → List Value → pm_S → pm_O → Prop) (d N : Nat)  (x0 : Nat)  : ∀ (n : Nat) (x1 : Int32) (x2 : Int32) (S : pm_S) (r : (Int32 × pm_S)), F_Sheet_inSome_8 N  x0 n x1 x2 S = some r → pmE pG (pm_rel pG sp (d + 2)) mi_Sheet_inSome 8 [some (.ref x0), some (.int x1), some (.int x2)] [] S (some (.int r.1), r.2) := by
  intro n
  induction n with
  | zero =>
    intro x1 x2 S r h
    cases h
  | succ n ih =>
    intro x1 x2 S r h
    replace h : B_Sheet_inSome_8 N  (F_Sheet_inSome_8 N  x0 n) x0 x1 x2 S = some r := h
    have hrec8 := ih
    generalize F_Sheet_inSome_8 N  x0 n = rec8 at h hrec8
    unfold B_Sheet_inSome_8 at h
    refine pE_jump 2 (pc' := 10) (ls' := [some (.ref x0), some (.int x1), some (.int x2)]) (st' := [.ref x0, .int x2]) (fun _ => rfl) ?_
    obtain ⟨v3, hv3, h⟩ := obind h
    refine pE_gfI rfl rfl hv3 ?_
    refine pE_br (v3 ≤ x2) rfl rfl (fun c6 => ?_) (fun c6 => ?_)
    · rw [if_pos c6] at h
      refine pE_weak [none, some (.int x1), none] ⟨rfl, trivial⟩ ?_
      exact f_Sheet_inSome_30 sp d N x1 S _ h
    · rw [if_neg c6] at h
      refine pE_jump 3 (pc' := 19) (ls' := [some (.ref x0), some (.int x1), some (.int x2)]) (st' := [.int x2, .ref x0, .int x1]) (fun _ => rfl) ?_
      obtain ⟨⟨v5, S4⟩, hv5, h⟩ := obind h
      try dsimp only at h
      refine pE_iv (Bs := [.int x2]) (st := [.int x1]) 1 rfl (Or.inl ⟨rfl, rfl⟩) rfl rfl (Nat.le_of_ble_eq_true rfl) (Nat.le_of_ble_eq_true rfl) (g_Sheet_fitAt hv5) (f_Sheet_fitAt sp d N S x0 x2 _ hv5) ?_
      refine pE_jump 4 (pc' := 8) (ls' := [some (.ref x0), some (.int (x1 ||| v5)), some (.int (x2 + 1))]) (st' := []) (fun _ => rfl) ?_
      exact hrec8 (x1 ||| v5) (x2 + 1) S4 _ h
def F_Sheet_inSome (N : Nat) (S : pm_S) (a : Nat) : Option (Int32 × pm_S) :=
    if rcv S a 5 = true then
    ((F_Sheet_fitAt N S a 0).bind fun (v2, S1) =>
    F_Sheet_inSome_8 N a N v2 1 S1)
    else none
theorem g_Sheet_inSome {N : Nat} {S : pm_S} {a : Nat} {r : (Int32 × pm_S)} (h : F_Sheet_inSome N S a = some r) : rcv S a 5 = true := by
  unfold F_Sheet_inSome at h
  by_cases c : rcv S a 5 = true
  · exact c
  · rw [if_neg c] at h; cases h
set_option maxHeartbeats 4000000 in
set_option maxRecDepth 20000 in
theorem f_Sheet_inSome (sp : pm_I → List Value → pm_S → pm_O → Prop) (d N : Nat) (S : pm_S) (a : Nat) (r : (Int32 × pm_S)) (h : F_Sheet_inSome N S a = some r) : pm_rel pG sp (d + 3) mi_Sheet_inSome [.ref a] S (some (.int r.1), r.2) := by
  have hg := g_Sheet_inSome h
  unfold F_Sheet_inSome at h
  rw [if_pos hg] at h
  refine pE_rel (d := d + 2) ?_
  show pmE pG _ mi_Sheet_inSome 0 [some (.ref a), none, none] [] S _
  refine pE_jump 2 (pc' := 2) (ls' := [some (.ref a), none, none]) (st' := [.int 0, .ref a]) (fun _ => rfl) ?_
  obtain ⟨⟨v2, S1⟩, hv2, h⟩ := obind h
  try dsimp only at h
  refine pE_iv (Bs := [.int 0]) (st := []) 1 rfl (Or.inl ⟨rfl, rfl⟩) rfl rfl (Nat.le_of_ble_eq_true rfl) (Nat.le_of_ble_eq_true rfl) (g_Sheet_fitAt hv2) (f_Sheet_fitAt sp d N S a 0 _ hv2) ?_
  refine pE_jump 3 (pc' := 8) (ls' := [some (.ref a), some (.int v2), some (.int 1)]) (st' := []) (fun _ => rfl) ?_
  exact f_Sheet_inSome_8 sp d N a N v2 1 S1 _ h
