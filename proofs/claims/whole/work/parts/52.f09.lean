def F_Bench_findFits_58 (N : Nat)  (x2 : Nat) (S : pm_S) : Option pm_S :=
    (wF S x2 5 4 .boolean (.int 1)).bind fun S9 =>
    some S9
set_option maxHeartbeats 4000000 in
set_option maxRecDepth 20000 in
theorem f_Bench_findFits_58 (sp : pm_I → List Value → pm_S → pm_O → Prop) (d N : Nat)  (x2 : Nat) (S : pm_S)  (r : pm_S) (h : F_Bench_findFits_58 N  x2 S = some r) : pmE pG (pm_rel pG sp (d + 6)) mi_Bench_findFits 58 [none, none, some (.ref x2), none] [] S (none, r) := by
  unfold F_Bench_findFits_58 at h
  refine pE_jump 2 (pc' := 60) (ls' := [none, none, some (.ref x2), none]) (st' := [.int 1, .ref x2]) (fun _ => rfl) ?_
  obtain ⟨S9, hS9, h⟩ := obind h
  refine pE_pf rfl rfl rfl hS9 ?_
  cases h
  exact pE_ret rfl rfl rfl
def F_Bench_findFits_52 (N : Nat) (rec30 : Int32 → pm_S → Option pm_S) (x0 : Nat) (x1 : Nat) (x2 : Nat) (x3 : Int32) (S : pm_S) : Option pm_S :=
    rec30 (x3 + 1) S
set_option maxHeartbeats 4000000 in
set_option maxRecDepth 20000 in
theorem f_Bench_findFits_52 (sp : pm_I → List Value → pm_S → pm_O → Prop) (d N : Nat) (rec30 : Int32 → pm_S → Option pm_S) (x0 : Nat) (x1 : Nat) (x2 : Nat) (x3 : Int32) (S : pm_S) (hrec30 : ∀ (y1 : Int32) (U : pm_S) (r : pm_S), rec30 y1 U = some r → pmE pG (pm_rel pG sp (d + 6)) mi_Bench_findFits 30 [some (.ref x0), some (.ref x1), some (.ref x2), some (.int y1)] [] U (none, r)) (r : pm_S) (h : F_Bench_findFits_52 N rec30 x0 x1 x2 x3 S = some r) : pmE pG (pm_rel pG sp (d + 6)) mi_Bench_findFits 52 [some (.ref x0), some (.ref x1), some (.ref x2), some (.int x3)] [] S (none, r) := by
  unfold F_Bench_findFits_52 at h
  refine pE_jump 2 (pc' := 30) (ls' := [some (.ref x0), some (.ref x1), some (.ref x2), some (.int (x3 + 1))]) (st' := []) (fun _ => rfl) ?_
  exact hrec30 (x3 + 1) S _ h
def B_Bench_findFits_30 (N : Nat)  (rec30 : Int32 → pm_S → Option pm_S) (x0 : Nat) (x1 : Nat) (x2 : Nat) (x3 : Int32) (S : pm_S) : Option pm_S :=
    (F_Plan_worlds N S x1).bind fun (v8, S7) =>
    if v8 ≤ x3 then
    F_Bench_findFits_58 N x2 S7
    else
    ((F_Bench_fits N S7 x0 x1 x3).bind fun (v11, S10) =>
    if v11 = 0 then
    F_Bench_findFits_52 N rec30 x0 x1 x2 x3 S10
    else
    ((F_Sheet_addFit N S10 x2 x3).bind fun S12 =>
    F_Bench_findFits_52 N rec30 x0 x1 x2 x3 S12))
def F_Bench_findFits_30 (N : Nat)  (x0 : Nat) (x1 : Nat) (x2 : Nat) : Nat → Int32 → pm_S → Option pm_S
  | 0 => fun _ _ => none
  | n + 1 => fun x3 S => B_Bench_findFits_30 N  (F_Bench_findFits_30 N  x0 x1 x2 n) x0 x1 x2 x3 S
set_option maxHeartbeats 4000000 in
set_option maxRecDepth 20000 in
theorem f_Bench_findFits_30 (sp : pm_I → List Value → pm_S → pm_O → Prop) (d N : Nat)  (x0 : Nat) (x1 : Nat) (x2 : Nat)  : ∀ (n : Nat) (x3 : Int32) (S : pm_S) (r : pm_S), F_Bench_findFits_30 N  x0 x1 x2 n x3 S = some r → pmE pG (pm_rel pG sp (d + 6)) mi_Bench_findFits 30 [some (.ref x0), some (.ref x1), some (.ref x2), some (.int x3)] [] S (none, r) := by
  intro n
  induction n with
  | zero =>
    intro x3 S r h
    cases h
  | succ n ih =>
    intro x3 S r h
    replace h : B_Bench_findFits_30 N  (F_Bench_findFits_30 N  x0 x1 x2 n) x0 x1 x2 x3 S = some r := h
    have hrec30 := ih
    generalize F_Bench_findFits_30 N  x0 x1 x2 n = rec30 at h hrec30
    unfold B_Bench_findFits_30 at h
    refine pE_jump 2 (pc' := 32) (ls' := [some (.ref x0), some (.ref x1), some (.ref x2), some (.int x3)]) (st' := [.ref x1, .int x3]) (fun _ => rfl) ?_
    obtain ⟨⟨v8, S7⟩, hv8, h⟩ := obind h
    try dsimp only at h
    refine pE_iv (Bs := []) (st := [.int x3]) 1 rfl (Or.inl ⟨rfl, rfl⟩) rfl rfl (Nat.le_of_ble_eq_true rfl) (Nat.le_of_ble_eq_true rfl) (g_Plan_worlds hv8) (f_Plan_worlds sp (d + 4) N S x1 _ hv8) ?_
    refine pE_br (v8 ≤ x3) rfl rfl (fun c14 => ?_) (fun c14 => ?_)
    · rw [if_pos c14] at h
      refine pE_weak [none, none, some (.ref x2), none] ⟨rfl, trivial⟩ ?_
      exact f_Bench_findFits_58 sp d N x2 S7 _ h
    · rw [if_neg c14] at h
      refine pE_jump 3 (pc' := 41) (ls' := [some (.ref x0), some (.ref x1), some (.ref x2), some (.int x3)]) (st' := [.int x3, .ref x1, .ref x0]) (fun _ => rfl) ?_
      obtain ⟨⟨v11, S10⟩, hv11, h⟩ := obind h
      try dsimp only at h
      refine pE_iv (Bs := [.ref x1, .int x3]) (st := []) 1 rfl (Or.inl ⟨rfl, rfl⟩) rfl rfl (Nat.le_of_ble_eq_true rfl) (Nat.le_of_ble_eq_true rfl) (g_Bench_fits hv11) (f_Bench_fits sp (d + 3) N S7 x0 x1 x3 _ hv11) ?_
      refine pE_br (v11 = 0) rfl rfl (fun c13 => ?_) (fun c13 => ?_)
      · rw [if_pos c13] at h
        exact f_Bench_findFits_52 sp d N rec30 x0 x1 x2 x3 S10 hrec30 _ h
      · rw [if_neg c13] at h
        refine pE_jump 2 (pc' := 49) (ls' := [some (.ref x0), some (.ref x1), some (.ref x2), some (.int x3)]) (st' := [.int x3, .ref x2]) (fun _ => rfl) ?_
        obtain ⟨S12, hS12, h⟩ := obind h
        refine pE_iv (Bs := [.int x3]) (st := []) 1 rfl (Or.inl ⟨rfl, rfl⟩) rfl rfl (Nat.le_of_ble_eq_true rfl) (Nat.le_of_ble_eq_true rfl) (g_Sheet_addFit hS12) (f_Sheet_addFit sp (d + 4) N S10 x2 x3 _ hS12) ?_
        exact f_Bench_findFits_52 sp d N rec30 x0 x1 x2 x3 S12 hrec30 _ h
def F_Bench_findFits (N : Nat) (S : pm_S) (a : Nat) (p0 : Nat) : Option pm_S :=
    if rcv S a 0 = true then
    ((oR S p0 4 11).bind fun oq1 => match oq1 with
    | none => none
    | some q1 =>
    (oI S q1 5 4).bind fun v2 =>
    if v2 = 0 then
    ((F_Bench_columnsRead N S a p0).bind fun (v4, S3) =>
    (F_Bench_fill N S3 a p0 v4).bind fun S5 =>
    (wF S5 q1 5 3 .int (.int 0)).bind fun S6 =>
    F_Bench_findFits_30 N a p0 q1 N 0 S6)
    else
    some S)
    else none
theorem g_Bench_findFits {N : Nat} {S : pm_S} {a : Nat} {p0 : Nat} {r : pm_S} (h : F_Bench_findFits N S a p0 = some r) : rcv S a 0 = true := by
  unfold F_Bench_findFits at h
  by_cases c : rcv S a 0 = true
  · exact c
  · rw [if_neg c] at h; cases h
set_option maxHeartbeats 4000000 in
set_option maxRecDepth 20000 in
theorem f_Bench_findFits (sp : pm_I → List Value → pm_S → pm_O → Prop) (d N : Nat) (S : pm_S) (a : Nat) (p0 : Nat) (r : pm_S) (h : F_Bench_findFits N S a p0 = some r) : pm_rel pG sp (d + 7) mi_Bench_findFits [.ref a, .ref p0] S (none, r) := by
  have hg := g_Bench_findFits h
  unfold F_Bench_findFits at h
  rw [if_pos hg] at h
  refine pE_rel (d := d + 6) ?_
  show pmE pG _ mi_Bench_findFits 0 [some (.ref a), some (.ref p0), none, none] [] S _
  refine pE_jump 1 (pc' := 1) (ls' := [some (.ref a), some (.ref p0), none, none]) (st' := [.ref p0]) (fun _ => rfl) ?_
  obtain ⟨oq1, hq1, h⟩ := obind h
  cases oq1 with
  | none => cases h
  | some q1 =>
    try dsimp only at h
    refine pE_gfS rfl rfl hq1 ?_
    refine pE_jump 2 (pc' := 6) (ls' := [some (.ref a), some (.ref p0), some (.ref q1), none]) (st' := [.ref q1]) (fun _ => rfl) ?_
    obtain ⟨v2, hv2, h⟩ := obind h
    refine pE_gfI rfl rfl hv2 ?_
    refine pE_br (v2 = 0) rfl rfl (fun c15 => ?_) (fun c15 => ?_)
    · rw [if_pos c15] at h
      refine pE_jump 4 (pc' := 17) (ls' := [some (.ref a), some (.ref p0), some (.ref q1), none]) (st' := [.ref p0, .ref a, .ref p0, .ref a]) (fun _ => rfl) ?_
      obtain ⟨⟨v4, S3⟩, hv4, h⟩ := obind h
      try dsimp only at h
      refine pE_iv (Bs := [.ref p0]) (st := [.ref p0, .ref a]) 1 rfl (Or.inl ⟨rfl, rfl⟩) rfl rfl (Nat.le_of_ble_eq_true rfl) (Nat.le_of_ble_eq_true rfl) (g_Bench_columnsRead hv4) (f_Bench_columnsRead sp (d + 3) N S a p0 _ hv4) ?_
      obtain ⟨S5, hS5, h⟩ := obind h
      refine pE_iv (Bs := [.ref p0, .int v4]) (st := []) 1 rfl (Or.inl ⟨rfl, rfl⟩) rfl rfl (Nat.le_of_ble_eq_true rfl) (Nat.le_of_ble_eq_true rfl) (g_Bench_fill hS5) (f_Bench_fill sp d N S3 a p0 v4 _ hS5) ?_
      refine pE_jump 2 (pc' := 25) (ls' := [some (.ref a), some (.ref p0), some (.ref q1), none]) (st' := [.int 0, .ref q1]) (fun _ => rfl) ?_
      obtain ⟨S6, hS6, h⟩ := obind h
      refine pE_pf rfl rfl rfl hS6 ?_
      refine pE_jump 2 (pc' := 30) (ls' := [some (.ref a), some (.ref p0), some (.ref q1), some (.int 0)]) (st' := []) (fun _ => rfl) ?_
      exact f_Bench_findFits_30 sp d N a p0 q1 N 0 S6 _ h
    · rw [if_neg c15] at h
      cases h
      exact pE_ret rfl rfl rfl
def F_Sheet_fitAt_20 (N : Nat)  (t0 : Int32) (S : pm_S) : Option (Int32 × pm_S) :=
    some (t0, S)
set_option maxHeartbeats 4000000 in
set_option maxRecDepth 20000 in
theorem f_Sheet_fitAt_20 (sp : pm_I → List Value → pm_S → pm_O → Prop) (d N : Nat)  (t0 : Int32) (S : pm_S)  (r : (Int32 × pm_S)) (h : F_Sheet_fitAt_20 N  t0 S = some r) : pmE pG (pm_rel pG sp (d + 1)) mi_Sheet_fitAt 20 [none, none] [.int t0] S (some (.int r.1), r.2) := by
  unfold F_Sheet_fitAt_20 at h
  cases h
  exact pE_ret rfl rfl rfl
def F_Sheet_fitAt (N : Nat) (S : pm_S) (a : Nat) (p0 : Int32) : Option (Int32 × pm_S) :=
    if rcv S a 5 = true then
    ((oI S a 5 3).bind fun v1 =>
    if v1 ≤ p0 then
    F_Sheet_fitAt_20 N (-1) S
    else
    ((oR S a 5 1).bind fun oq2 => match oq2 with
    | none => none
    | some q2 =>
    (F_BP_valueAt N S q2 p0).bind fun (v4, S3) =>
    F_Sheet_fitAt_20 N v4 S3))
    else none
theorem g_Sheet_fitAt {N : Nat} {S : pm_S} {a : Nat} {p0 : Int32} {r : (Int32 × pm_S)} (h : F_Sheet_fitAt N S a p0 = some r) : rcv S a 5 = true := by
  unfold F_Sheet_fitAt at h
  by_cases c : rcv S a 5 = true
  · exact c
  · rw [if_neg c] at h; cases h
set_option maxHeartbeats 4000000 in
set_option maxRecDepth 20000 in
theorem f_Sheet_fitAt (sp : pm_I → List Value → pm_S → pm_O → Prop) (d N : Nat) (S : pm_S) (a : Nat) (p0 : Int32) (r : (Int32 × pm_S)) (h : F_Sheet_fitAt N S a p0 = some r) : pm_rel pG sp (d + 2) mi_Sheet_fitAt [.ref a, .int p0] S (some (.int r.1), r.2) := by
  have hg := g_Sheet_fitAt h
  unfold F_Sheet_fitAt at h
  rw [if_pos hg] at h
  refine pE_rel (d := d + 1) ?_
  show pmE pG _ mi_Sheet_fitAt 0 [some (.ref a), some (.int p0)] [] S _
  refine pE_jump 2 (pc' := 2) (ls' := [some (.ref a), some (.int p0)]) (st' := [.ref a, .int p0]) (fun _ => rfl) ?_
  obtain ⟨v1, hv1, h⟩ := obind h
  refine pE_gfI rfl rfl hv1 ?_
  refine pE_br (v1 ≤ p0) rfl rfl (fun c5 => ?_) (fun c5 => ?_)
  · rw [if_pos c5] at h
    refine pE_jump 1 (pc' := 20) (ls' := [some (.ref a), some (.int p0)]) (st' := [.int (-1)]) (fun _ => rfl) ?_
    refine pE_weak [none, none] trivial ?_
    exact f_Sheet_fitAt_20 sp d N (-1) S _ h
  · rw [if_neg c5] at h
    refine pE_jump 1 (pc' := 9) (ls' := [some (.ref a), some (.int p0)]) (st' := [.ref a]) (fun _ => rfl) ?_
    obtain ⟨oq2, hq2, h⟩ := obind h
    cases oq2 with
    | none => cases h
    | some q2 =>
      try dsimp only at h
      refine pE_gfS rfl rfl hq2 ?_
      refine pE_jump 1 (pc' := 13) (ls' := [some (.ref a), some (.int p0)]) (st' := [.int p0, .ref q2]) (fun _ => rfl) ?_
      obtain ⟨⟨v4, S3⟩, hv4, h⟩ := obind h
      try dsimp only at h
      refine pE_is (Bs := [.ref q2, .int p0]) (st := []) rfl rfl rfl (Nat.le_of_ble_eq_true rfl) (Nat.le_of_ble_eq_true rfl) (f_BP_valueAt sp d N S q2 p0 _ hv4) ?_
      refine pE_jump 1 (pc' := 20) (ls' := [some (.ref a), some (.int p0)]) (st' := [.int v4]) (fun _ => rfl) ?_
      refine pE_weak [none, none] trivial ?_
      exact f_Sheet_fitAt_20 sp d N v4 S3 _ h
def F_BP_fitting_43 (N : Nat)  (t0 : Int32) (S : pm_S) : Option (Int32 × pm_S) :=
    some (t0, S)
set_option maxHeartbeats 4000000 in
set_option maxRecDepth 20000 in
theorem f_BP_fitting_43 (sp : pm_I → List Value → pm_S → pm_O → Prop) (d N : Nat)  (t0 : Int32) (S : pm_S)  (r : (Int32 × pm_S)) (h : F_BP_fitting_43 N  t0 S = some r) : pmE pG (pm_rel pG sp (d + 7)) mi_BP_fitting 43 [none, none, none, none] [.int t0] S (some (.int r.1), r.2) := by
  unfold F_BP_fitting_43 at h
  cases h
  exact pE_ret rfl rfl rfl
def F_BP_fitting (N : Nat) (S : pm_S) (a : Nat) (p0 : Int32) (p1 : Int32) : Option (Int32 × pm_S) :=
    if rcv S a 10 = true then
    ((F_BP_planAt N S a p0).bind fun (oq2, S1) => match oq2 with
    | none => some ((-1), S1)
    | some q2 =>
    (oR S1 a 10 3).bind fun oq3 => match oq3 with
    | none => none
    | some q3 =>
    (F_Bench_findFits N S1 q3 q2).bind fun S4 =>
    if p1 = (-1) then
    ((oR S4 q2 4 11).bind fun oq5 => match oq5 with
    | none => none
    | some q5 =>
    (oI S4 q5 5 3).bind fun v6 =>
    F_BP_fitting_43 N v6 S4)
    else
    ((oR S4 q2 4 11).bind fun oq7 => match oq7 with
    | none => none
    | some q7 =>
    (F_Sheet_fitAt N S4 q7 p1).bind fun (v9, S8) =>
    F_BP_fitting_43 N v9 S8))
    else none
theorem g_BP_fitting {N : Nat} {S : pm_S} {a : Nat} {p0 : Int32} {p1 : Int32} {r : (Int32 × pm_S)} (h : F_BP_fitting N S a p0 p1 = some r) : rcv S a 10 = true := by
  unfold F_BP_fitting at h
  by_cases c : rcv S a 10 = true
  · exact c
  · rw [if_neg c] at h; cases h
set_option maxHeartbeats 4000000 in
set_option maxRecDepth 20000 in
theorem f_BP_fitting (sp : pm_I → List Value → pm_S → pm_O → Prop) (d N : Nat) (S : pm_S) (a : Nat) (p0 : Int32) (p1 : Int32) (r : (Int32 × pm_S)) (h : F_BP_fitting N S a p0 p1 = some r) : pm_rel pG sp (d + 8) mi_BP_fitting [.ref a, .int p0, .int p1] S (some (.int r.1), r.2) := by
  have hg := g_BP_fitting h
  unfold F_BP_fitting at h
  rw [if_pos hg] at h
  refine pE_rel (d := d + 7) ?_
  show pmE pG _ mi_BP_fitting 0 [some (.ref a), some (.int p0), some (.int p1), none] [] S _
  refine pE_jump 2 (pc' := 2) (ls' := [some (.ref a), some (.int p0), some (.int p1), none]) (st' := [.int p0, .ref a]) (fun _ => rfl) ?_
  obtain ⟨⟨oq2, S1⟩, hq2, h⟩ := obind h
  try dsimp only at h
  cases oq2 with
  | none =>
    try dsimp only at h
    refine pE_iv (Bs := [.int p0]) (st := []) 1 rfl (Or.inl ⟨rfl, rfl⟩) rfl rfl (Nat.le_of_ble_eq_true rfl) (Nat.le_of_ble_eq_true rfl) (g_BP_planAt hq2) (f_BP_planAt sp (d + 6) N S a p0 _ hq2) ?_
    refine pE_jump 4 (pc' := 11) (ls' := [some (.ref a), some (.int p0), some (.int p1), some (.null)]) (st' := [.int (-1)]) (fun _ => rfl) ?_
    cases h
    exact pE_ret rfl rfl rfl
  | some q2 =>
    try dsimp only at h
    refine pE_iv (Bs := [.int p0]) (st := []) 1 rfl (Or.inl ⟨rfl, rfl⟩) rfl rfl (Nat.le_of_ble_eq_true rfl) (Nat.le_of_ble_eq_true rfl) (g_BP_planAt hq2) (f_BP_planAt sp (d + 6) N S a p0 _ hq2) ?_
    refine pE_jump 4 (pc' := 13) (ls' := [some (.ref a), some (.int p0), some (.int p1), some (.ref q2)]) (st' := [.ref a]) (fun _ => rfl) ?_
    obtain ⟨oq3, hq3, h⟩ := obind h
    cases oq3 with
    | none => cases h
    | some q3 =>
      try dsimp only at h
      refine pE_gfS rfl rfl hq3 ?_
      refine pE_jump 1 (pc' := 17) (ls' := [some (.ref a), some (.int p0), some (.int p1), some (.ref q2)]) (st' := [.ref q2, .ref q3]) (fun _ => rfl) ?_
      obtain ⟨S4, hS4, h⟩ := obind h
      refine pE_iv (Bs := [.ref q2]) (st := []) 1 rfl (Or.inl ⟨rfl, rfl⟩) rfl rfl (Nat.le_of_ble_eq_true rfl) (Nat.le_of_ble_eq_true rfl) (g_Bench_findFits hS4) (f_Bench_findFits sp d N S1 q3 q2 _ hS4) ?_
      refine pE_jump 2 (pc' := 22) (ls' := [some (.ref a), some (.int p0), some (.int p1), some (.ref q2)]) (st' := [.int (-1), .int p1]) (fun _ => rfl) ?_
      refine pE_br (¬ p1 = (-1)) rfl rfl (fun c10 => ?_) (fun c10 => ?_)
      · rw [if_neg c10] at h
        refine pE_jump 1 (pc' := 36) (ls' := [some (.ref a), some (.int p0), some (.int p1), some (.ref q2)]) (st' := [.ref q2]) (fun _ => rfl) ?_
        obtain ⟨oq7, hq7, h⟩ := obind h
        cases oq7 with
        | none => cases h
        | some q7 =>
          try dsimp only at h
          refine pE_gfS rfl rfl hq7 ?_
          refine pE_jump 1 (pc' := 40) (ls' := [some (.ref a), some (.int p0), some (.int p1), some (.ref q2)]) (st' := [.int p1, .ref q7]) (fun _ => rfl) ?_
          obtain ⟨⟨v9, S8⟩, hv9, h⟩ := obind h
          try dsimp only at h
          refine pE_iv (Bs := [.int p1]) (st := []) 1 rfl (Or.inl ⟨rfl, rfl⟩) rfl rfl (Nat.le_of_ble_eq_true rfl) (Nat.le_of_ble_eq_true rfl) (g_Sheet_fitAt hv9) (f_Sheet_fitAt sp (d + 5) N S4 q7 p1 _ hv9) ?_
          refine pE_weak [none, none, none, none] trivial ?_
          exact f_BP_fitting_43 sp d N v9 S8 _ h
      · have c10 := Decidable.not_not.mp c10
        rw [if_pos c10] at h
        refine pE_jump 1 (pc' := 26) (ls' := [some (.ref a), some (.int p0), some (.int p1), some (.ref q2)]) (st' := [.ref q2]) (fun _ => rfl) ?_
        obtain ⟨oq5, hq5, h⟩ := obind h
        cases oq5 with
        | none => cases h
        | some q5 =>
          try dsimp only at h
          refine pE_gfS rfl rfl hq5 ?_
          obtain ⟨v6, hv6, h⟩ := obind h
          refine pE_gfI rfl rfl hv6 ?_
          refine pE_jump 1 (pc' := 43) (ls' := [some (.ref a), some (.int p0), some (.int p1), some (.ref q2)]) (st' := [.int v6]) (fun _ => rfl) ?_
          refine pE_weak [none, none, none, none] trivial ?_
          exact f_BP_fitting_43 sp d N v6 S4 _ h
def F_Int_bitCount (N : Nat) (S : pm_S) (p0 : Int32) : Option (Int32 × pm_S) :=
    some ((((((((p0 - (((p0.toUInt32 >>> (Int32.toUInt32 1 &&& Int32.toUInt32 31)).toInt32) &&& 1431655765)) &&& 858993459) + ((((p0 - (((p0.toUInt32 >>> (Int32.toUInt32 1 &&& Int32.toUInt32 31)).toInt32) &&& 1431655765)).toUInt32 >>> (Int32.toUInt32 2 &&& Int32.toUInt32 31)).toInt32) &&& 858993459)) + (((((p0 - (((p0.toUInt32 >>> (Int32.toUInt32 1 &&& Int32.toUInt32 31)).toInt32) &&& 1431655765)) &&& 858993459) + ((((p0 - (((p0.toUInt32 >>> (Int32.toUInt32 1 &&& Int32.toUInt32 31)).toInt32) &&& 1431655765)).toUInt32 >>> (Int32.toUInt32 2 &&& Int32.toUInt32 31)).toInt32) &&& 858993459)).toUInt32 >>> (Int32.toUInt32 4 &&& Int32.toUInt32 31)).toInt32)) &&& 252645135) + (((((((p0 - (((p0.toUInt32 >>> (Int32.toUInt32 1 &&& Int32.toUInt32 31)).toInt32) &&& 1431655765)) &&& 858993459) + ((((p0 - (((p0.toUInt32 >>> (Int32.toUInt32 1 &&& Int32.toUInt32 31)).toInt32) &&& 1431655765)).toUInt32 >>> (Int32.toUInt32 2 &&& Int32.toUInt32 31)).toInt32) &&& 858993459)) + (((((p0 - (((p0.toUInt32 >>> (Int32.toUInt32 1 &&& Int32.toUInt32 31)).toInt32) &&& 1431655765)) &&& 858993459) + ((((p0 - (((p0.toUInt32 >>> (Int32.toUInt32 1 &&& Int32.toUInt32 31)).toInt32) &&& 1431655765)).toUInt32 >>> (Int32.toUInt32 2 &&& Int32.toUInt32 31)).toInt32) &&& 858993459)).toUInt32 >>> (Int32.toUInt32 4 &&& Int32.toUInt32 31)).toInt32)) &&& 252645135).toUInt32 >>> (Int32.toUInt32 8 &&& Int32.toUInt32 31)).toInt32)) + ((((((((p0 - (((p0.toUInt32 >>> (Int32.toUInt32 1 &&& Int32.toUInt32 31)).toInt32) &&& 1431655765)) &&& 858993459) + ((((p0 - (((p0.toUInt32 >>> (Int32.toUInt32 1 &&& Int32.toUInt32 31)).toInt32) &&& 1431655765)).toUInt32 >>> (Int32.toUInt32 2 &&& Int32.toUInt32 31)).toInt32) &&& 858993459)) + (((((p0 - (((p0.toUInt32 >>> (Int32.toUInt32 1 &&& Int32.toUInt32 31)).toInt32) &&& 1431655765)) &&& 858993459) + ((((p0 - (((p0.toUInt32 >>> (Int32.toUInt32 1 &&& Int32.toUInt32 31)).toInt32) &&& 1431655765)).toUInt32 >>> (Int32.toUInt32 2 &&& Int32.toUInt32 31)).toInt32) &&& 858993459)).toUInt32 >>> (Int32.toUInt32 4 &&& Int32.toUInt32 31)).toInt32)) &&& 252645135) + (((((((p0 - (((p0.toUInt32 >>> (Int32.toUInt32 1 &&& Int32.toUInt32 31)).toInt32) &&& 1431655765)) &&& 858993459) + ((((p0 - (((p0.toUInt32 >>> (Int32.toUInt32 1 &&& Int32.toUInt32 31)).toInt32) &&& 1431655765)).toUInt32 >>> (Int32.toUInt32 2 &&& Int32.toUInt32 31)).toInt32) &&& 858993459)) + (((((p0 - (((p0.toUInt32 >>> (Int32.toUInt32 1 &&& Int32.toUInt32 31)).toInt32) &&& 1431655765)) &&& 858993459) + ((((p0 - (((p0.toUInt32 >>> (Int32.toUInt32 1 &&& Int32.toUInt32 31)).toInt32) &&& 1431655765)).toUInt32 >>> (Int32.toUInt32 2 &&& Int32.toUInt32 31)).toInt32) &&& 858993459)).toUInt32 >>> (Int32.toUInt32 4 &&& Int32.toUInt32 31)).toInt32)) &&& 252645135).toUInt32 >>> (Int32.toUInt32 8 &&& Int32.toUInt32 31)).toInt32)).toUInt32 >>> (Int32.toUInt32 16 &&& Int32.toUInt32 31)).toInt32)) &&& 63, S)
set_option maxHeartbeats 4000000 in
set_option maxRecDepth 20000 in
theorem f_Int_bitCount (sp : pm_I → List Value → pm_S → pm_O → Prop) (d N : Nat) (S : pm_S) (p0 : Int32) (r : (Int32 × pm_S)) (h : F_Int_bitCount N S p0 = some r) : pm_rel pG sp (d + 1) mi_Int_bitCount [.int p0] S (some (.int r.1), r.2) := by
  unfold F_Int_bitCount at h
  refine pE_rel (d := d + 0) ?_
  show pmE pG _ mi_Int_bitCount 0 [some (.int p0)] [] S _
  refine pE_jump 41 (pc' := 52) (ls' := [some (.int (((((((p0 - (((p0.toUInt32 >>> (Int32.toUInt32 1 &&& Int32.toUInt32 31)).toInt32) &&& 1431655765)) &&& 858993459) + ((((p0 - (((p0.toUInt32 >>> (Int32.toUInt32 1 &&& Int32.toUInt32 31)).toInt32) &&& 1431655765)).toUInt32 >>> (Int32.toUInt32 2 &&& Int32.toUInt32 31)).toInt32) &&& 858993459)) + (((((p0 - (((p0.toUInt32 >>> (Int32.toUInt32 1 &&& Int32.toUInt32 31)).toInt32) &&& 1431655765)) &&& 858993459) + ((((p0 - (((p0.toUInt32 >>> (Int32.toUInt32 1 &&& Int32.toUInt32 31)).toInt32) &&& 1431655765)).toUInt32 >>> (Int32.toUInt32 2 &&& Int32.toUInt32 31)).toInt32) &&& 858993459)).toUInt32 >>> (Int32.toUInt32 4 &&& Int32.toUInt32 31)).toInt32)) &&& 252645135) + (((((((p0 - (((p0.toUInt32 >>> (Int32.toUInt32 1 &&& Int32.toUInt32 31)).toInt32) &&& 1431655765)) &&& 858993459) + ((((p0 - (((p0.toUInt32 >>> (Int32.toUInt32 1 &&& Int32.toUInt32 31)).toInt32) &&& 1431655765)).toUInt32 >>> (Int32.toUInt32 2 &&& Int32.toUInt32 31)).toInt32) &&& 858993459)) + (((((p0 - (((p0.toUInt32 >>> (Int32.toUInt32 1 &&& Int32.toUInt32 31)).toInt32) &&& 1431655765)) &&& 858993459) + ((((p0 - (((p0.toUInt32 >>> (Int32.toUInt32 1 &&& Int32.toUInt32 31)).toInt32) &&& 1431655765)).toUInt32 >>> (Int32.toUInt32 2 &&& Int32.toUInt32 31)).toInt32) &&& 858993459)).toUInt32 >>> (Int32.toUInt32 4 &&& Int32.toUInt32 31)).toInt32)) &&& 252645135).toUInt32 >>> (Int32.toUInt32 8 &&& Int32.toUInt32 31)).toInt32)) + ((((((((p0 - (((p0.toUInt32 >>> (Int32.toUInt32 1 &&& Int32.toUInt32 31)).toInt32) &&& 1431655765)) &&& 858993459) + ((((p0 - (((p0.toUInt32 >>> (Int32.toUInt32 1 &&& Int32.toUInt32 31)).toInt32) &&& 1431655765)).toUInt32 >>> (Int32.toUInt32 2 &&& Int32.toUInt32 31)).toInt32) &&& 858993459)) + (((((p0 - (((p0.toUInt32 >>> (Int32.toUInt32 1 &&& Int32.toUInt32 31)).toInt32) &&& 1431655765)) &&& 858993459) + ((((p0 - (((p0.toUInt32 >>> (Int32.toUInt32 1 &&& Int32.toUInt32 31)).toInt32) &&& 1431655765)).toUInt32 >>> (Int32.toUInt32 2 &&& Int32.toUInt32 31)).toInt32) &&& 858993459)).toUInt32 >>> (Int32.toUInt32 4 &&& Int32.toUInt32 31)).toInt32)) &&& 252645135) + (((((((p0 - (((p0.toUInt32 >>> (Int32.toUInt32 1 &&& Int32.toUInt32 31)).toInt32) &&& 1431655765)) &&& 858993459) + ((((p0 - (((p0.toUInt32 >>> (Int32.toUInt32 1 &&& Int32.toUInt32 31)).toInt32) &&& 1431655765)).toUInt32 >>> (Int32.toUInt32 2 &&& Int32.toUInt32 31)).toInt32) &&& 858993459)) + (((((p0 - (((p0.toUInt32 >>> (Int32.toUInt32 1 &&& Int32.toUInt32 31)).toInt32) &&& 1431655765)) &&& 858993459) + ((((p0 - (((p0.toUInt32 >>> (Int32.toUInt32 1 &&& Int32.toUInt32 31)).toInt32) &&& 1431655765)).toUInt32 >>> (Int32.toUInt32 2 &&& Int32.toUInt32 31)).toInt32) &&& 858993459)).toUInt32 >>> (Int32.toUInt32 4 &&& Int32.toUInt32 31)).toInt32)) &&& 252645135).toUInt32 >>> (Int32.toUInt32 8 &&& Int32.toUInt32 31)).toInt32)).toUInt32 >>> (Int32.toUInt32 16 &&& Int32.toUInt32 31)).toInt32)))]) (st' := [.int ((((((((p0 - (((p0.toUInt32 >>> (Int32.toUInt32 1 &&& Int32.toUInt32 31)).toInt32) &&& 1431655765)) &&& 858993459) + ((((p0 - (((p0.toUInt32 >>> (Int32.toUInt32 1 &&& Int32.toUInt32 31)).toInt32) &&& 1431655765)).toUInt32 >>> (Int32.toUInt32 2 &&& Int32.toUInt32 31)).toInt32) &&& 858993459)) + (((((p0 - (((p0.toUInt32 >>> (Int32.toUInt32 1 &&& Int32.toUInt32 31)).toInt32) &&& 1431655765)) &&& 858993459) + ((((p0 - (((p0.toUInt32 >>> (Int32.toUInt32 1 &&& Int32.toUInt32 31)).toInt32) &&& 1431655765)).toUInt32 >>> (Int32.toUInt32 2 &&& Int32.toUInt32 31)).toInt32) &&& 858993459)).toUInt32 >>> (Int32.toUInt32 4 &&& Int32.toUInt32 31)).toInt32)) &&& 252645135) + (((((((p0 - (((p0.toUInt32 >>> (Int32.toUInt32 1 &&& Int32.toUInt32 31)).toInt32) &&& 1431655765)) &&& 858993459) + ((((p0 - (((p0.toUInt32 >>> (Int32.toUInt32 1 &&& Int32.toUInt32 31)).toInt32) &&& 1431655765)).toUInt32 >>> (Int32.toUInt32 2 &&& Int32.toUInt32 31)).toInt32) &&& 858993459)) + (((((p0 - (((p0.toUInt32 >>> (Int32.toUInt32 1 &&& Int32.toUInt32 31)).toInt32) &&& 1431655765)) &&& 858993459) + ((((p0 - (((p0.toUInt32 >>> (Int32.toUInt32 1 &&& Int32.toUInt32 31)).toInt32) &&& 1431655765)).toUInt32 >>> (Int32.toUInt32 2 &&& Int32.toUInt32 31)).toInt32) &&& 858993459)).toUInt32 >>> (Int32.toUInt32 4 &&& Int32.toUInt32 31)).toInt32)) &&& 252645135).toUInt32 >>> (Int32.toUInt32 8 &&& Int32.toUInt32 31)).toInt32)) + ((((((((p0 - (((p0.toUInt32 >>> (Int32.toUInt32 1 &&& Int32.toUInt32 31)).toInt32) &&& 1431655765)) &&& 858993459) + ((((p0 - (((p0.toUInt32 >>> (Int32.toUInt32 1 &&& Int32.toUInt32 31)).toInt32) &&& 1431655765)).toUInt32 >>> (Int32.toUInt32 2 &&& Int32.toUInt32 31)).toInt32) &&& 858993459)) + (((((p0 - (((p0.toUInt32 >>> (Int32.toUInt32 1 &&& Int32.toUInt32 31)).toInt32) &&& 1431655765)) &&& 858993459) + ((((p0 - (((p0.toUInt32 >>> (Int32.toUInt32 1 &&& Int32.toUInt32 31)).toInt32) &&& 1431655765)).toUInt32 >>> (Int32.toUInt32 2 &&& Int32.toUInt32 31)).toInt32) &&& 858993459)).toUInt32 >>> (Int32.toUInt32 4 &&& Int32.toUInt32 31)).toInt32)) &&& 252645135) + (((((((p0 - (((p0.toUInt32 >>> (Int32.toUInt32 1 &&& Int32.toUInt32 31)).toInt32) &&& 1431655765)) &&& 858993459) + ((((p0 - (((p0.toUInt32 >>> (Int32.toUInt32 1 &&& Int32.toUInt32 31)).toInt32) &&& 1431655765)).toUInt32 >>> (Int32.toUInt32 2 &&& Int32.toUInt32 31)).toInt32) &&& 858993459)) + (((((p0 - (((p0.toUInt32 >>> (Int32.toUInt32 1 &&& Int32.toUInt32 31)).toInt32) &&& 1431655765)) &&& 858993459) + ((((p0 - (((p0.toUInt32 >>> (Int32.toUInt32 1 &&& Int32.toUInt32 31)).toInt32) &&& 1431655765)).toUInt32 >>> (Int32.toUInt32 2 &&& Int32.toUInt32 31)).toInt32) &&& 858993459)).toUInt32 >>> (Int32.toUInt32 4 &&& Int32.toUInt32 31)).toInt32)) &&& 252645135).toUInt32 >>> (Int32.toUInt32 8 &&& Int32.toUInt32 31)).toInt32)).toUInt32 >>> (Int32.toUInt32 16 &&& Int32.toUInt32 31)).toInt32)) &&& 63)]) (fun _ => rfl) ?_
  cases h
  exact pE_ret rfl rfl rfl
def F_Sheet_comesBefore_46 (N : Nat)  (t0 : Int32) (S : pm_S) : Option (Int32 × pm_S) :=
    if t0 = 0 ∨ t0 = 1 then some (t0, S) else none
set_option maxHeartbeats 4000000 in
set_option maxRecDepth 20000 in
theorem f_Sheet_comesBefore_46 (sp : pm_I → List Value → pm_S → pm_O → Prop) (d N : Nat)  (t0 : Int32) (S : pm_S)  (r : (Int32 × pm_S)) (h : F_Sheet_comesBefore_46 N  t0 S = some r) : pmE pG (pm_rel pG sp (d + 1)) mi_Sheet_comesBefore 46 [none, none, none, none, none] [.int t0] S (some (.int r.1), r.2) := by
  unfold F_Sheet_comesBefore_46 at h
  by_cases c5 : t0 = 0 ∨ t0 = 1
  · rw [if_pos c5] at h
    cases h
    exact pE_ret rfl (if_pos c5) rfl
  · rw [if_neg c5] at h
    cases h
def F_Sheet_comesBefore_23 (N : Nat)  (t0 : Int32) (S : pm_S) : Option (Int32 × pm_S) :=
    if t0 = 0 ∨ t0 = 1 then some (t0, S) else none
set_option maxHeartbeats 4000000 in
set_option maxRecDepth 20000 in
theorem f_Sheet_comesBefore_23 (sp : pm_I → List Value → pm_S → pm_O → Prop) (d N : Nat)  (t0 : Int32) (S : pm_S)  (r : (Int32 × pm_S)) (h : F_Sheet_comesBefore_23 N  t0 S = some r) : pmE pG (pm_rel pG sp (d + 1)) mi_Sheet_comesBefore 23 [none, none, none, none, none] [.int t0] S (some (.int r.1), r.2) := by
  unfold F_Sheet_comesBefore_23 at h
  by_cases c7 : t0 = 0 ∨ t0 = 1
  · rw [if_pos c7] at h
    cases h
    exact pE_ret rfl (if_pos c7) rfl
  · rw [if_neg c7] at h
    cases h
def F_Sheet_comesBefore (N : Nat) (S : pm_S) (p0 : Int32) (p1 : Int32) : Option (Int32 × pm_S) :=
    (F_Int_bitCount N S p0).bind fun (v2, S1) =>
    (F_Int_bitCount N S1 p1).bind fun (v4, S3) =>
    if (v2 - v4) = 0 then
    (if (p0 &&& ((p0 ^^^ p1) &&& (-(p0 ^^^ p1)))) = 0 then
    F_Sheet_comesBefore_46 N 0 S3
    else
    F_Sheet_comesBefore_46 N 1 S3)
    else
    (if 0 ≤ (v2 - v4) then
    F_Sheet_comesBefore_23 N 0 S3
    else
    F_Sheet_comesBefore_23 N 1 S3)
set_option maxHeartbeats 4000000 in
set_option maxRecDepth 20000 in
theorem f_Sheet_comesBefore (sp : pm_I → List Value → pm_S → pm_O → Prop) (d N : Nat) (S : pm_S) (p0 : Int32) (p1 : Int32) (r : (Int32 × pm_S)) (h : F_Sheet_comesBefore N S p0 p1 = some r) : pm_rel pG sp (d + 2) mi_Sheet_comesBefore [.int p0, .int p1] S (some (.int r.1), r.2) := by
  unfold F_Sheet_comesBefore at h
  refine pE_rel (d := d + 1) ?_
  show pmE pG _ mi_Sheet_comesBefore 0 [some (.int p0), some (.int p1), none, none, none] [] S _
  refine pE_jump 1 (pc' := 1) (ls' := [some (.int p0), some (.int p1), none, none, none]) (st' := [.int p0]) (fun _ => rfl) ?_
  obtain ⟨⟨v2, S1⟩, hv2, h⟩ := obind h
  try dsimp only at h
  refine pE_is (Bs := [.int p0]) (st := []) rfl rfl rfl (Nat.le_of_ble_eq_true rfl) (Nat.le_of_ble_eq_true rfl) (f_Int_bitCount sp d N S p0 _ hv2) ?_
  refine pE_jump 1 (pc' := 5) (ls' := [some (.int p0), some (.int p1), none, none, none]) (st' := [.int p1, .int v2]) (fun _ => rfl) ?_
  obtain ⟨⟨v4, S3⟩, hv4, h⟩ := obind h
  try dsimp only at h
  refine pE_is (Bs := [.int p1]) (st := [.int v2]) rfl rfl rfl (Nat.le_of_ble_eq_true rfl) (Nat.le_of_ble_eq_true rfl) (f_Int_bitCount sp d N S1 p1 _ hv4) ?_
  refine pE_jump 3 (pc' := 11) (ls' := [some (.int p0), some (.int p1), some (.int (v2 - v4)), none, none]) (st' := [.int (v2 - v4)]) (fun _ => rfl) ?_
  refine pE_br ((v2 - v4) = 0) rfl rfl (fun c9 => ?_) (fun c9 => ?_)
  · rw [if_pos c9] at h
    refine pE_jump 12 (pc' := 38) (ls' := [some (.int p0), some (.int p1), some (.int (v2 - v4)), some (.int (p0 ^^^ p1)), some (.int ((p0 ^^^ p1) &&& (-(p0 ^^^ p1))))]) (st' := [.int (p0 &&& ((p0 ^^^ p1) &&& (-(p0 ^^^ p1))))]) (fun _ => rfl) ?_
    refine pE_br ((p0 &&& ((p0 ^^^ p1) &&& (-(p0 ^^^ p1)))) = 0) rfl rfl (fun c6 => ?_) (fun c6 => ?_)
    · rw [if_pos c6] at h
      refine pE_jump 1 (pc' := 46) (ls' := [some (.int p0), some (.int p1), some (.int (v2 - v4)), some (.int (p0 ^^^ p1)), some (.int ((p0 ^^^ p1) &&& (-(p0 ^^^ p1))))]) (st' := [.int 0]) (fun _ => rfl) ?_
      refine pE_weak [none, none, none, none, none] trivial ?_
      exact f_Sheet_comesBefore_46 sp d N 0 S3 _ h
    · rw [if_neg c6] at h
      refine pE_jump 2 (pc' := 46) (ls' := [some (.int p0), some (.int p1), some (.int (v2 - v4)), some (.int (p0 ^^^ p1)), some (.int ((p0 ^^^ p1) &&& (-(p0 ^^^ p1))))]) (st' := [.int 1]) (fun _ => rfl) ?_
      refine pE_weak [none, none, none, none, none] trivial ?_
      exact f_Sheet_comesBefore_46 sp d N 1 S3 _ h
  · rw [if_neg c9] at h
    refine pE_jump 1 (pc' := 15) (ls' := [some (.int p0), some (.int p1), some (.int (v2 - v4)), none, none]) (st' := [.int (v2 - v4)]) (fun _ => rfl) ?_
    refine pE_br (0 ≤ (v2 - v4)) rfl rfl (fun c8 => ?_) (fun c8 => ?_)
    · rw [if_pos c8] at h
      refine pE_jump 1 (pc' := 23) (ls' := [some (.int p0), some (.int p1), some (.int (v2 - v4)), none, none]) (st' := [.int 0]) (fun _ => rfl) ?_
      refine pE_weak [none, none, none, none, none] trivial ?_
      exact f_Sheet_comesBefore_23 sp d N 0 S3 _ h
    · rw [if_neg c8] at h
      refine pE_jump 2 (pc' := 23) (ls' := [some (.int p0), some (.int p1), some (.int (v2 - v4)), none, none]) (st' := [.int 1]) (fun _ => rfl) ?_
      refine pE_weak [none, none, none, none, none] trivial ?_
      exact f_Sheet_comesBefore_23 sp d N 1 S3 _ h
def F_Sheet_smallest_40 (N : Nat)  (x1 : Int32) (S : pm_S) : Option (Int32 × pm_S) :=
    some (x1, S)
set_option maxHeartbeats 4000000 in
set_option maxRecDepth 20000 in
theorem f_Sheet_smallest_40 (sp : pm_I → List Value → pm_S → pm_O → Prop) (d N : Nat)  (x1 : Int32) (S : pm_S)  (r : (Int32 × pm_S)) (h : F_Sheet_smallest_40 N  x1 S = some r) : pmE pG (pm_rel pG sp (d + 2)) mi_Sheet_smallest 40 [none, some (.int x1), none] [] S (some (.int r.1), r.2) := by
  unfold F_Sheet_smallest_40 at h
  refine pE_jump 1 (pc' := 41) (ls' := [none, some (.int x1), none]) (st' := [.int x1]) (fun _ => rfl) ?_
  cases h
  exact pE_ret rfl rfl rfl
def F_Sheet_smallest_34 (N : Nat) (rec8 : Int32 → Int32 → pm_S → Option (Int32 × pm_S)) (x0 : Nat) (x1 : Int32) (x2 : Int32) (S : pm_S) : Option (Int32 × pm_S) :=
    rec8 x1 (x2 + 1) S
set_option maxHeartbeats 4000000 in
set_option maxRecDepth 20000 in
theorem f_Sheet_smallest_34 (sp : pm_I → List Value → pm_S → pm_O → Prop) (d N : Nat) (rec8 : Int32 → Int32 → pm_S → Option (Int32 × pm_S)) (x0 : Nat) (x1 : Int32) (x2 : Int32) (S : pm_S) (hrec8 : ∀ (y1 : Int32) (y2 : Int32) (U : pm_S) (r : (Int32 × pm_S)), rec8 y1 y2 U = some r → pmE pG (pm_rel pG sp (d + 2)) mi_Sheet_smallest 8 [some (.ref x0), some (.int y1), some (.int y2)] [] U (some (.int r.1), r.2)) (r : (Int32 × pm_S)) (h : F_Sheet_smallest_34 N rec8 x0 x1 x2 S = some r) : pmE pG (pm_rel pG sp (d + 2)) mi_Sheet_smallest 34 [some (.ref x0), some (.int x1), some (.int x2)] [] S (some (.int r.1), r.2) := by
  unfold F_Sheet_smallest_34 at h
  refine pE_jump 2 (pc' := 8) (ls' := [some (.ref x0), some (.int x1), some (.int (x2 + 1))]) (st' := []) (fun _ => rfl) ?_
  exact hrec8 x1 (x2 + 1) S _ h
def B_Sheet_smallest_8 (N : Nat)  (rec8 : Int32 → Int32 → pm_S → Option (Int32 × pm_S)) (x0 : Nat) (x1 : Int32) (x2 : Int32) (S : pm_S) : Option (Int32 × pm_S) :=
    (oI S x0 5 3).bind fun v3 =>
    if v3 ≤ x2 then
    F_Sheet_smallest_40 N x1 S
    else
    ((F_Sheet_fitAt N S x0 x2).bind fun (v5, S4) =>
    (F_Sheet_comesBefore N S4 v5 x1).bind fun (v7, S6) =>
    if v7 = 0 then
    F_Sheet_smallest_34 N rec8 x0 x1 x2 S6
    else
    ((F_Sheet_fitAt N S6 x0 x2).bind fun (v9, S8) =>
    F_Sheet_smallest_34 N rec8 x0 v9 x2 S8))
def F_Sheet_smallest_8 (N : Nat)  (x0 : Nat) : Nat → Int32 → Int32 → pm_S → Option (Int32 × pm_S)
  | 0 => fun _ _ _ => none
  | n + 1 => fun x1 x2 S => B_Sheet_smallest_8 N  (F_Sheet_smallest_8 N  x0 n) x0 x1 x2 S
set_option maxHeartbeats 4000000 in
set_option maxRecDepth 20000 in
theorem f_Sheet_smallest_8 (sp : pm_I → List Value → pm_S → pm_O → Prop) (d N : Nat)  (x0 : Nat)  : ∀ (n : Nat) (x1 : Int32) (x2 : Int32) (S : pm_S) (r : (Int32 × pm_S)), F_Sheet_smallest_8 N  x0 n x1 x2 S = some r → pmE pG (pm_rel pG sp (d + 2)) mi_Sheet_smallest 8 [some (.ref x0), some (.int x1), some (.int x2)] [] S (some (.int r.1), r.2) := by
  intro n
  induction n with
  | zero =>
    intro x1 x2 S r h
    cases h
  | succ n ih =>
    intro x1 x2 S r h
    replace h : B_Sheet_smallest_8 N  (F_Sheet_smallest_8 N  x0 n) x0 x1 x2 S = some r := h
    have hrec8 := ih
    generalize F_Sheet_smallest_8 N  x0 n = rec8 at h hrec8
    unfold B_Sheet_smallest_8 at h
    refine pE_jump 2 (pc' := 10) (ls' := [some (.ref x0), some (.int x1), some (.int x2)]) (st' := [.ref x0, .int x2]) (fun _ => rfl) ?_
    obtain ⟨v3, hv3, h⟩ := obind h
    refine pE_gfI rfl rfl hv3 ?_
    refine pE_br (v3 ≤ x2) rfl rfl (fun c11 => ?_) (fun c11 => ?_)
    · rw [if_pos c11] at h
      refine pE_weak [none, some (.int x1), none] ⟨rfl, trivial⟩ ?_
      exact f_Sheet_smallest_40 sp d N x1 S _ h
    · rw [if_neg c11] at h
      refine pE_jump 2 (pc' := 18) (ls' := [some (.ref x0), some (.int x1), some (.int x2)]) (st' := [.int x2, .ref x0]) (fun _ => rfl) ?_
      obtain ⟨⟨v5, S4⟩, hv5, h⟩ := obind h
      try dsimp only at h
      refine pE_iv (Bs := [.int x2]) (st := []) 1 rfl (Or.inl ⟨rfl, rfl⟩) rfl rfl (Nat.le_of_ble_eq_true rfl) (Nat.le_of_ble_eq_true rfl) (g_Sheet_fitAt hv5) (f_Sheet_fitAt sp d N S x0 x2 _ hv5) ?_
      refine pE_jump 1 (pc' := 22) (ls' := [some (.ref x0), some (.int x1), some (.int x2)]) (st' := [.int x1, .int v5]) (fun _ => rfl) ?_
      obtain ⟨⟨v7, S6⟩, hv7, h⟩ := obind h
      try dsimp only at h
      refine pE_is (Bs := [.int v5, .int x1]) (st := []) rfl rfl rfl (Nat.le_of_ble_eq_true rfl) (Nat.le_of_ble_eq_true rfl) (f_Sheet_comesBefore sp d N S4 v5 x1 _ hv7) ?_
      refine pE_br (v7 = 0) rfl rfl (fun c10 => ?_) (fun c10 => ?_)
      · rw [if_pos c10] at h
        exact f_Sheet_smallest_34 sp d N rec8 x0 x1 x2 S6 hrec8 _ h
      · rw [if_neg c10] at h
        refine pE_jump 2 (pc' := 30) (ls' := [some (.ref x0), some (.int x1), some (.int x2)]) (st' := [.int x2, .ref x0]) (fun _ => rfl) ?_
        obtain ⟨⟨v9, S8⟩, hv9, h⟩ := obind h
        try dsimp only at h
        refine pE_iv (Bs := [.int x2]) (st := []) 1 rfl (Or.inl ⟨rfl, rfl⟩) rfl rfl (Nat.le_of_ble_eq_true rfl) (Nat.le_of_ble_eq_true rfl) (g_Sheet_fitAt hv9) (f_Sheet_fitAt sp d N S6 x0 x2 _ hv9) ?_
        refine pE_jump 1 (pc' := 34) (ls' := [some (.ref x0), some (.int v9), some (.int x2)]) (st' := []) (fun _ => rfl) ?_
        exact f_Sheet_smallest_34 sp d N rec8 x0 v9 x2 S8 hrec8 _ h
def F_Sheet_smallest (N : Nat) (S : pm_S) (a : Nat) : Option (Int32 × pm_S) :=
    if rcv S a 5 = true then
    ((F_Sheet_fitAt N S a 0).bind fun (v2, S1) =>
    F_Sheet_smallest_8 N a N v2 1 S1)
    else none
theorem g_Sheet_smallest {N : Nat} {S : pm_S} {a : Nat} {r : (Int32 × pm_S)} (h : F_Sheet_smallest N S a = some r) : rcv S a 5 = true := by
  unfold F_Sheet_smallest at h
  by_cases c : rcv S a 5 = true
  · exact c
  · rw [if_neg c] at h; cases h
set_option maxHeartbeats 4000000 in
set_option maxRecDepth 20000 in
theorem f_Sheet_smallest (sp : pm_I → List Value → pm_S → pm_O → Prop) (d N : Nat) (S : pm_S) (a : Nat) (r : (Int32 × pm_S)) (h : F_Sheet_smallest N S a = some r) : pm_rel pG sp (d + 3) mi_Sheet_smallest [.ref a] S (some (.int r.1), r.2) := by
  have hg := g_Sheet_smallest h
  unfold F_Sheet_smallest at h
  rw [if_pos hg] at h
  refine pE_rel (d := d + 2) ?_
  show pmE pG _ mi_Sheet_smallest 0 [some (.ref a), none, none] [] S _
  refine pE_jump 2 (pc' := 2) (ls' := [some (.ref a), none, none]) (st' := [.int 0, .ref a]) (fun _ => rfl) ?_
  obtain ⟨⟨v2, S1⟩, hv2, h⟩ := obind h
  try dsimp only at h
  refine pE_iv (Bs := [.int 0]) (st := []) 1 rfl (Or.inl ⟨rfl, rfl⟩) rfl rfl (Nat.le_of_ble_eq_true rfl) (Nat.le_of_ble_eq_true rfl) (g_Sheet_fitAt hv2) (f_Sheet_fitAt sp d N S a 0 _ hv2) ?_
  refine pE_jump 3 (pc' := 8) (ls' := [some (.ref a), some (.int v2), some (.int 1)]) (st' := []) (fun _ => rfl) ?_
  exact f_Sheet_smallest_8 sp d N a N v2 1 S1 _ h
def F_BP_fewest (N : Nat) (S : pm_S) (a : Nat) (p0 : Int32) : Option (Int32 × pm_S) :=
    if rcv S a 10 = true then
    ((F_BP_planAt N S a p0).bind fun (oq2, S1) => match oq2 with
    | none => some ((-1), S1)
    | some q2 =>
    (oR S1 a 10 3).bind fun oq3 => match oq3 with
    | none => none
    | some q3 =>
    (F_Bench_findFits N S1 q3 q2).bind fun S4 =>
    (oR S4 q2 4 11).bind fun oq5 => match oq5 with
    | none => none
    | some q5 =>
    (F_Sheet_smallest N S4 q5).bind fun (v7, S6) =>
    some (v7, S6))
    else none
theorem g_BP_fewest {N : Nat} {S : pm_S} {a : Nat} {p0 : Int32} {r : (Int32 × pm_S)} (h : F_BP_fewest N S a p0 = some r) : rcv S a 10 = true := by
  unfold F_BP_fewest at h
  by_cases c : rcv S a 10 = true
  · exact c
  · rw [if_neg c] at h; cases h
set_option maxHeartbeats 4000000 in
set_option maxRecDepth 20000 in
theorem f_BP_fewest (sp : pm_I → List Value → pm_S → pm_O → Prop) (d N : Nat) (S : pm_S) (a : Nat) (p0 : Int32) (r : (Int32 × pm_S)) (h : F_BP_fewest N S a p0 = some r) : pm_rel pG sp (d + 8) mi_BP_fewest [.ref a, .int p0] S (some (.int r.1), r.2) := by
  have hg := g_BP_fewest h
  unfold F_BP_fewest at h
  rw [if_pos hg] at h
  refine pE_rel (d := d + 7) ?_
  show pmE pG _ mi_BP_fewest 0 [some (.ref a), some (.int p0), none] [] S _
  refine pE_jump 2 (pc' := 2) (ls' := [some (.ref a), some (.int p0), none]) (st' := [.int p0, .ref a]) (fun _ => rfl) ?_
  obtain ⟨⟨oq2, S1⟩, hq2, h⟩ := obind h
  try dsimp only at h
  cases oq2 with
  | none =>
    try dsimp only at h
    refine pE_iv (Bs := [.int p0]) (st := []) 1 rfl (Or.inl ⟨rfl, rfl⟩) rfl rfl (Nat.le_of_ble_eq_true rfl) (Nat.le_of_ble_eq_true rfl) (g_BP_planAt hq2) (f_BP_planAt sp (d + 6) N S a p0 _ hq2) ?_
    refine pE_jump 4 (pc' := 11) (ls' := [some (.ref a), some (.int p0), some (.null)]) (st' := [.int (-1)]) (fun _ => rfl) ?_
    cases h
    exact pE_ret rfl rfl rfl
  | some q2 =>
    try dsimp only at h
    refine pE_iv (Bs := [.int p0]) (st := []) 1 rfl (Or.inl ⟨rfl, rfl⟩) rfl rfl (Nat.le_of_ble_eq_true rfl) (Nat.le_of_ble_eq_true rfl) (g_BP_planAt hq2) (f_BP_planAt sp (d + 6) N S a p0 _ hq2) ?_
    refine pE_jump 4 (pc' := 13) (ls' := [some (.ref a), some (.int p0), some (.ref q2)]) (st' := [.ref a]) (fun _ => rfl) ?_
    obtain ⟨oq3, hq3, h⟩ := obind h
    cases oq3 with
    | none => cases h
    | some q3 =>
      try dsimp only at h
      refine pE_gfS rfl rfl hq3 ?_
      refine pE_jump 1 (pc' := 17) (ls' := [some (.ref a), some (.int p0), some (.ref q2)]) (st' := [.ref q2, .ref q3]) (fun _ => rfl) ?_
      obtain ⟨S4, hS4, h⟩ := obind h
      refine pE_iv (Bs := [.ref q2]) (st := []) 1 rfl (Or.inl ⟨rfl, rfl⟩) rfl rfl (Nat.le_of_ble_eq_true rfl) (Nat.le_of_ble_eq_true rfl) (g_Bench_findFits hS4) (f_Bench_findFits sp d N S1 q3 q2 _ hS4) ?_
      refine pE_jump 1 (pc' := 21) (ls' := [some (.ref a), some (.int p0), some (.ref q2)]) (st' := [.ref q2]) (fun _ => rfl) ?_
      obtain ⟨oq5, hq5, h⟩ := obind h
      cases oq5 with
      | none => cases h
      | some q5 =>
        try dsimp only at h
        refine pE_gfS rfl rfl hq5 ?_
        obtain ⟨⟨v7, S6⟩, hv7, h⟩ := obind h
        try dsimp only at h
        refine pE_iv (Bs := []) (st := []) 1 rfl (Or.inl ⟨rfl, rfl⟩) rfl rfl (Nat.le_of_ble_eq_true rfl) (Nat.le_of_ble_eq_true rfl) (g_Sheet_smallest hv7) (f_Sheet_smallest sp (d + 4) N S4 q5 _ hv7) ?_
        cases h
        exact pE_ret rfl rfl rfl
def F_Sheet_inAll_30 (N : Nat)  (x1 : Int32) (S : pm_S) : Option (Int32 × pm_S) :=
    some (x1, S)
set_option maxHeartbeats 4000000 in
set_option maxRecDepth 20000 in
theorem f_Sheet_inAll_30 (sp : pm_I → List Value → pm_S → pm_O → Prop) (d N : Nat)  (x1 : Int32) (S : pm_S)  (r : (Int32 × pm_S)) (h : F_Sheet_inAll_30 N  x1 S = some r) : pmE pG (pm_rel pG sp (d + 2)) mi_Sheet_inAll 30 [none, some (.int x1), none] [] S (some (.int r.1), r.2) := by
  unfold F_Sheet_inAll_30 at h
  refine pE_jump 1 (pc' := 31) (ls' := [none, some (.int x1), none]) (st' := [.int x1]) (fun _ => rfl) ?_
  cases h
  exact pE_ret rfl rfl rfl
def B_Sheet_inAll_8 (N : Nat)  (rec8 : Int32 → Int32 → pm_S → Option (Int32 × pm_S)) (x0 : Nat) (x1 : Int32) (x2 : Int32) (S : pm_S) : Option (Int32 × pm_S) :=
    (oI S x0 5 3).bind fun v3 =>
    if v3 ≤ x2 then
    F_Sheet_inAll_30 N x1 S
    else
    ((F_Sheet_fitAt N S x0 x2).bind fun (v5, S4) =>
    rec8 (x1 &&& v5) (x2 + 1) S4)
def F_Sheet_inAll_8 (N : Nat)  (x0 : Nat) : Nat → Int32 → Int32 → pm_S → Option (Int32 × pm_S)
  | 0 => fun _ _ _ => none
  | n + 1 => fun x1 x2 S => B_Sheet_inAll_8 N  (F_Sheet_inAll_8 N  x0 n) x0 x1 x2 S
set_option maxHeartbeats 4000000 in
set_option maxRecDepth 20000 in
theorem f_Sheet_inAll_8 (sp : pm_I → List Value → pm_S → pm_O → Prop) (d N : Nat)  (x0 : Nat)  : ∀ (n : Nat) (x1 : Int32) (x2 : Int32) (S : pm_S) (r : (Int32 × pm_S)), F_Sheet_inAll_8 N  x0 n x1 x2 S = some r → pmE pG (pm_rel pG sp (d + 2)) mi_Sheet_inAll 8 [some (.ref x0), some (.int x1), some (.int x2)] [] S (some (.int r.1), r.2) := by
  intro n
  induction n with
  | zero =>
    intro x1 x2 S r h
    cases h
  | succ n ih =>
    intro x1 x2 S r h
    replace h : B_Sheet_inAll_8 N  (F_Sheet_inAll_8 N  x0 n) x0 x1 x2 S = some r := h
    have hrec8 := ih
    generalize F_Sheet_inAll_8 N  x0 n = rec8 at h hrec8
    unfold B_Sheet_inAll_8 at h
    refine pE_jump 2 (pc' := 10) (ls' := [some (.ref x0), some (.int x1), some (.int x2)]) (st' := [.ref x0, .int x2]) (fun _ => rfl) ?_
    obtain ⟨v3, hv3, h⟩ := obind h
    refine pE_gfI rfl rfl hv3 ?_
    refine pE_br (v3 ≤ x2) rfl rfl (fun c6 => ?_) (fun c6 => ?_)
    · rw [if_pos c6] at h
      refine pE_weak [none, some (.int x1), none] ⟨rfl, trivial⟩ ?_
      exact f_Sheet_inAll_30 sp d N x1 S _ h
    · rw [if_neg c6] at h
      refine pE_jump 3 (pc' := 19) (ls' := [some (.ref x0), some (.int x1), some (.int x2)]) (st' := [.int x2, .ref x0, .int x1]) (fun _ => rfl) ?_
      obtain ⟨⟨v5, S4⟩, hv5, h⟩ := obind h
      try dsimp only at h
      refine pE_iv (Bs := [.int x2]) (st := [.int x1]) 1 rfl (Or.inl ⟨rfl, rfl⟩) rfl rfl (Nat.le_of_ble_eq_true rfl) (Nat.le_of_ble_eq_true rfl) (g_Sheet_fitAt hv5) (f_Sheet_fitAt sp d N S x0 x2 _ hv5) ?_
      refine pE_jump 4 (pc' := 8) (ls' := [some (.ref x0), some (.int (x1 &&& v5)), some (.int (x2 + 1))]) (st' := []) (fun _ => rfl) ?_
      exact hrec8 (x1 &&& v5) (x2 + 1) S4 _ h
def F_Sheet_inAll (N : Nat) (S : pm_S) (a : Nat) : Option (Int32 × pm_S) :=
    if rcv S a 5 = true then
    ((F_Sheet_fitAt N S a 0).bind fun (v2, S1) =>
    F_Sheet_inAll_8 N a N v2 1 S1)
    else none
theorem g_Sheet_inAll {N : Nat} {S : pm_S} {a : Nat} {r : (Int32 × pm_S)} (h : F_Sheet_inAll N S a = some r) : rcv S a 5 = true := by
  unfold F_Sheet_inAll at h
  by_cases c : rcv S a 5 = true
  · exact c
  · rw [if_neg c] at h; cases h
set_option maxHeartbeats 4000000 in
set_option maxRecDepth 20000 in
theorem f_Sheet_inAll (sp : pm_I → List Value → pm_S → pm_O → Prop) (d N : Nat) (S : pm_S) (a : Nat) (r : (Int32 × pm_S)) (h : F_Sheet_inAll N S a = some r) : pm_rel pG sp (d + 3) mi_Sheet_inAll [.ref a] S (some (.int r.1), r.2) := by
  have hg := g_Sheet_inAll h
  unfold F_Sheet_inAll at h
  rw [if_pos hg] at h
  refine pE_rel (d := d + 2) ?_
  show pmE pG _ mi_Sheet_inAll 0 [some (.ref a), none, none] [] S _
  refine pE_jump 2 (pc' := 2) (ls' := [some (.ref a), none, none]) (st' := [.int 0, .ref a]) (fun _ => rfl) ?_
  obtain ⟨⟨v2, S1⟩, hv2, h⟩ := obind h
  try dsimp only at h
  refine pE_iv (Bs := [.int 0]) (st := []) 1 rfl (Or.inl ⟨rfl, rfl⟩) rfl rfl (Nat.le_of_ble_eq_true rfl) (Nat.le_of_ble_eq_true rfl) (g_Sheet_fitAt hv2) (f_Sheet_fitAt sp d N S a 0 _ hv2) ?_
  refine pE_jump 3 (pc' := 8) (ls' := [some (.ref a), some (.int v2), some (.int 1)]) (st' := []) (fun _ => rfl) ?_
  exact f_Sheet_inAll_8 sp d N a N v2 1 S1 _ h
def F_Sheet_inSome_30 (N : Nat)  (x1 : Int32) (S : pm_S) : Option (Int32 × pm_S) :=
    some (x1, S)
set_option maxHeartbeats 4000000 in
set_option maxRecDepth 20000 in
theorem f_Sheet_inSome_30 (sp : pm_I → List Value → pm_S → pm_O → Prop) (d N : Nat)  (x1 : Int32) (S : pm_S)  (r : (Int32 × pm_S)) (h : F_Sheet_inSome_30 N  x1 S = some r) : pmE pG (pm_rel pG sp (d + 2)) mi_Sheet_inSome 30 [none, some (.int x1), none] [] S (some (.int r.1), r.2) := by
  unfold F_Sheet_inSome_30 at h
  refine pE_jump 1 (pc' := 31) (ls' := [none, some (.int x1), none]) (st' := [.int x1]) (fun _ => rfl) ?_
  cases h
  exact pE_ret rfl rfl rfl
def B_Sheet_inSome_8 (N : Nat)  (rec8 : Int32 → Int32 → pm_S → Option (Int32 × pm_S)) (x0 : Nat) (x1 : Int32) (x2 : Int32) (S : pm_S) : Option (Int32 × pm_S) :=
    (oI S x0 5 3).bind fun v3 =>
    if v3 ≤ x2 then
    F_Sheet_inSome_30 N x1 S
    else
    ((F_Sheet_fitAt N S x0 x2).bind fun (v5, S4) =>
    rec8 (x1 ||| v5) (x2 + 1) S4)
def F_Sheet_inSome_8 (N : Nat)  (x0 : Nat) : Nat → Int32 → Int32 → pm_S → Option (Int32 × pm_S)
  | 0 => fun _ _ _ => none
  | n + 1 => fun x1 x2 S => B_Sheet_inSome_8 N  (F_Sheet_inSome_8 N  x0 n) x0 x1 x2 S
set_option maxHeartbeats 4000000 in
set_option maxRecDepth 20000 in
theorem f_Sheet_inSome_8 (sp : pm_I → List Value → pm_S → pm_O → Prop) (d N : Nat)  (x0 : Nat)  : ∀ (n : Nat) (x1 : Int32) (x2 : Int32) (S : pm_S) (r : (Int32 × pm_S)), F_Sheet_inSome_8 N  x0 n x1 x2 S = some r → pmE pG (pm_rel pG sp (d + 2)) mi_Sheet_inSome 8 [some (.ref x0), some (.int x1), some (.int x2)] [] S (some (.int r.1), r.2) := by
  intro n
  induction n with
  | zero =>
    intro x1 x2 S r h
    cases h
  | succ n ih =>
    intro x1 x2 S r h
    replace h : B_Sheet_inSome_8 N  (F_Sheet_inSome_8 N  x0 n) x0 x1 x2 S = some r := h
    have hrec8 := ih
    generalize F_Sheet_inSome_8 N  x0 n = rec8 at h hrec8
    unfold B_Sheet_inSome_8 at h
    refine pE_jump 2 (pc' := 10) (ls' := [some (.ref x0), some (.int x1), some (.int x2)]) (st' := [.ref x0, .int x2]) (fun _ => rfl) ?_
    obtain ⟨v3, hv3, h⟩ := obind h
    refine pE_gfI rfl rfl hv3 ?_
    refine pE_br (v3 ≤ x2) rfl rfl (fun c6 => ?_) (fun c6 => ?_)
    · rw [if_pos c6] at h
      refine pE_weak [none, some (.int x1), none] ⟨rfl, trivial⟩ ?_
      exact f_Sheet_inSome_30 sp d N x1 S _ h
    · rw [if_neg c6] at h
      refine pE_jump 3 (pc' := 19) (ls' := [some (.ref x0), some (.int x1), some (.int x2)]) (st' := [.int x2, .ref x0, .int x1]) (fun _ => rfl) ?_
      obtain ⟨⟨v5, S4⟩, hv5, h⟩ := obind h
      try dsimp only at h
      refine pE_iv (Bs := [.int x2]) (st := [.int x1]) 1 rfl (Or.inl ⟨rfl, rfl⟩) rfl rfl (Nat.le_of_ble_eq_true rfl) (Nat.le_of_ble_eq_true rfl) (g_Sheet_fitAt hv5) (f_Sheet_fitAt sp d N S x0 x2 _ hv5) ?_
      refine pE_jump 4 (pc' := 8) (ls' := [some (.ref x0), some (.int (x1 ||| v5)), some (.int (x2 + 1))]) (st' := []) (fun _ => rfl) ?_
      exact hrec8 (x1 ||| v5) (x2 + 1) S4 _ h
def F_Sheet_inSome (N : Nat) (S : pm_S) (a : Nat) : Option (Int32 × pm_S) :=
    if rcv S a 5 = true then
    ((F_Sheet_fitAt N S a 0).bind fun (v2, S1) =>
    F_Sheet_inSome_8 N a N v2 1 S1)
    else none
theorem g_Sheet_inSome {N : Nat} {S : pm_S} {a : Nat} {r : (Int32 × pm_S)} (h : F_Sheet_inSome N S a = some r) : rcv S a 5 = true := by
  unfold F_Sheet_inSome at h
  by_cases c : rcv S a 5 = true
  · exact c
  · rw [if_neg c] at h; cases h
set_option maxHeartbeats 4000000 in
set_option maxRecDepth 20000 in
theorem f_Sheet_inSome (sp : pm_I → List Value → pm_S → pm_O → Prop) (d N : Nat) (S : pm_S) (a : Nat) (r : (Int32 × pm_S)) (h : F_Sheet_inSome N S a = some r) : pm_rel pG sp (d + 3) mi_Sheet_inSome [.ref a] S (some (.int r.1), r.2) := by
  have hg := g_Sheet_inSome h
  unfold F_Sheet_inSome at h
  rw [if_pos hg] at h
  refine pE_rel (d := d + 2) ?_
  show pmE pG _ mi_Sheet_inSome 0 [some (.ref a), none, none] [] S _
  refine pE_jump 2 (pc' := 2) (ls' := [some (.ref a), none, none]) (st' := [.int 0, .ref a]) (fun _ => rfl) ?_
  obtain ⟨⟨v2, S1⟩, hv2, h⟩ := obind h
  try dsimp only at h
  refine pE_iv (Bs := [.int 0]) (st := []) 1 rfl (Or.inl ⟨rfl, rfl⟩) rfl rfl (Nat.le_of_ble_eq_true rfl) (Nat.le_of_ble_eq_true rfl) (g_Sheet_fitAt hv2) (f_Sheet_fitAt sp d N S a 0 _ hv2) ?_
  refine pE_jump 3 (pc' := 8) (ls' := [some (.ref a), some (.int v2), some (.int 1)]) (st' := []) (fun _ => rfl) ?_
  exact f_Sheet_inSome_8 sp d N a N v2 1 S1 _ h
def F_BP_sure_19 (N : Nat)   (S : pm_S) : Option (Int32 × pm_S) :=
    some ((-1), S)
set_option maxHeartbeats 4000000 in
set_option maxRecDepth 20000 in
theorem f_BP_sure_19 (sp : pm_I → List Value → pm_S → pm_O → Prop) (d N : Nat)   (S : pm_S)  (r : (Int32 × pm_S)) (h : F_BP_sure_19 N   S = some r) : pmE pG (pm_rel pG sp (d + 7)) mi_BP_sure 19 [none, none, none, none] [] S (some (.int r.1), r.2) := by
  unfold F_BP_sure_19 at h
  refine pE_jump 1 (pc' := 20) (ls' := [none, none, none, none]) (st' := [.int (-1)]) (fun _ => rfl) ?_
  cases h
  exact pE_ret rfl rfl rfl
def F_BP_sure_50 (N : Nat)  (t0 : Int32) (S : pm_S) : Option (Int32 × pm_S) :=
    some (t0, S)
set_option maxHeartbeats 4000000 in
set_option maxRecDepth 20000 in
theorem f_BP_sure_50 (sp : pm_I → List Value → pm_S → pm_O → Prop) (d N : Nat)  (t0 : Int32) (S : pm_S)  (r : (Int32 × pm_S)) (h : F_BP_sure_50 N  t0 S = some r) : pmE pG (pm_rel pG sp (d + 7)) mi_BP_sure 50 [none, none, none, none] [.int t0] S (some (.int r.1), r.2) := by
  unfold F_BP_sure_50 at h
  cases h
  exact pE_ret rfl rfl rfl
def F_BP_sure (N : Nat) (S : pm_S) (a : Nat) (p0 : Int32) (p1 : Int32) : Option (Int32 × pm_S) :=
    if rcv S a 10 = true then
    ((F_BP_planAt N S a p0).bind fun (oq2, S1) => match oq2 with
    | none => F_BP_sure_19 N S1
    | some q2 =>
    if p1 < 0 then
    F_BP_sure_19 N S1
    else
    (if p1 ≤ 1 then
    ((oR S1 a 10 3).bind fun oq3 => match oq3 with
    | none => none
    | some q3 =>
    (F_Bench_findFits N S1 q3 q2).bind fun S4 =>
    if p1 = 0 then
    ((oR S4 q2 4 11).bind fun oq5 => match oq5 with
    | none => none
    | some q5 =>
    (F_Sheet_inAll N S4 q5).bind fun (v7, S6) =>
    F_BP_sure_50 N v7 S6)
    else
    ((oR S4 q2 4 11).bind fun oq8 => match oq8 with
    | none => none
    | some q8 =>
    (F_Sheet_inSome N S4 q8).bind fun (v10, S9) =>
    F_BP_sure_50 N v10 S9))
    else
    F_BP_sure_19 N S1))
    else none
theorem g_BP_sure {N : Nat} {S : pm_S} {a : Nat} {p0 : Int32} {p1 : Int32} {r : (Int32 × pm_S)} (h : F_BP_sure N S a p0 p1 = some r) : rcv S a 10 = true := by
  unfold F_BP_sure at h
  by_cases c : rcv S a 10 = true
  · exact c
  · rw [if_neg c] at h; cases h
set_option maxHeartbeats 4000000 in
set_option maxRecDepth 20000 in
theorem f_BP_sure (sp : pm_I → List Value → pm_S → pm_O → Prop) (d N : Nat) (S : pm_S) (a : Nat) (p0 : Int32) (p1 : Int32) (r : (Int32 × pm_S)) (h : F_BP_sure N S a p0 p1 = some r) : pm_rel pG sp (d + 8) mi_BP_sure [.ref a, .int p0, .int p1] S (some (.int r.1), r.2) := by
  have hg := g_BP_sure h
  unfold F_BP_sure at h
  rw [if_pos hg] at h
  refine pE_rel (d := d + 7) ?_
  show pmE pG _ mi_BP_sure 0 [some (.ref a), some (.int p0), some (.int p1), none] [] S _
  refine pE_jump 2 (pc' := 2) (ls' := [some (.ref a), some (.int p0), some (.int p1), none]) (st' := [.int p0, .ref a]) (fun _ => rfl) ?_
  obtain ⟨⟨oq2, S1⟩, hq2, h⟩ := obind h
  try dsimp only at h
  cases oq2 with
  | none =>
    try dsimp only at h
    refine pE_iv (Bs := [.int p0]) (st := []) 1 rfl (Or.inl ⟨rfl, rfl⟩) rfl rfl (Nat.le_of_ble_eq_true rfl) (Nat.le_of_ble_eq_true rfl) (g_BP_planAt hq2) (f_BP_planAt sp (d + 6) N S a p0 _ hq2) ?_
    refine pE_jump 3 (pc' := 19) (ls' := [some (.ref a), some (.int p0), some (.int p1), some (.null)]) (st' := []) (fun _ => rfl) ?_
    refine pE_weak [none, none, none, none] trivial ?_
    exact f_BP_sure_19 sp d N S1 _ h
  | some q2 =>
    try dsimp only at h
    refine pE_iv (Bs := [.int p0]) (st := []) 1 rfl (Or.inl ⟨rfl, rfl⟩) rfl rfl (Nat.le_of_ble_eq_true rfl) (Nat.le_of_ble_eq_true rfl) (g_BP_planAt hq2) (f_BP_planAt sp (d + 6) N S a p0 _ hq2) ?_
    refine pE_jump 4 (pc' := 11) (ls' := [some (.ref a), some (.int p0), some (.int p1), some (.ref q2)]) (st' := [.int p1]) (fun _ => rfl) ?_
    refine pE_br (p1 < 0) rfl rfl (fun c13 => ?_) (fun c13 => ?_)
    · rw [if_pos c13] at h
      refine pE_weak [none, none, none, none] trivial ?_
      exact f_BP_sure_19 sp d N S1 _ h
    · rw [if_neg c13] at h
      refine pE_jump 2 (pc' := 16) (ls' := [some (.ref a), some (.int p0), some (.int p1), some (.ref q2)]) (st' := [.int 1, .int p1]) (fun _ => rfl) ?_
      refine pE_br (p1 ≤ 1) rfl rfl (fun c12 => ?_) (fun c12 => ?_)
      · rw [if_pos c12] at h
        refine pE_jump 1 (pc' := 22) (ls' := [some (.ref a), some (.int p0), some (.int p1), some (.ref q2)]) (st' := [.ref a]) (fun _ => rfl) ?_
        obtain ⟨oq3, hq3, h⟩ := obind h
        cases oq3 with
        | none => cases h
        | some q3 =>
          try dsimp only at h
          refine pE_gfS rfl rfl hq3 ?_
          refine pE_jump 1 (pc' := 26) (ls' := [some (.ref a), some (.int p0), some (.int p1), some (.ref q2)]) (st' := [.ref q2, .ref q3]) (fun _ => rfl) ?_
          obtain ⟨S4, hS4, h⟩ := obind h
          refine pE_iv (Bs := [.ref q2]) (st := []) 1 rfl (Or.inl ⟨rfl, rfl⟩) rfl rfl (Nat.le_of_ble_eq_true rfl) (Nat.le_of_ble_eq_true rfl) (g_Bench_findFits hS4) (f_Bench_findFits sp d N S1 q3 q2 _ hS4) ?_
          refine pE_jump 1 (pc' := 30) (ls' := [some (.ref a), some (.int p0), some (.int p1), some (.ref q2)]) (st' := [.int p1]) (fun _ => rfl) ?_
          refine pE_br (¬ p1 = 0) rfl rfl (fun c11 => ?_) (fun c11 => ?_)
          · rw [if_neg c11] at h
            refine pE_jump 1 (pc' := 44) (ls' := [some (.ref a), some (.int p0), some (.int p1), some (.ref q2)]) (st' := [.ref q2]) (fun _ => rfl) ?_
            obtain ⟨oq8, hq8, h⟩ := obind h
            cases oq8 with
            | none => cases h
            | some q8 =>
              try dsimp only at h
              refine pE_gfS rfl rfl hq8 ?_
              obtain ⟨⟨v10, S9⟩, hv10, h⟩ := obind h
              try dsimp only at h
              refine pE_iv (Bs := []) (st := []) 1 rfl (Or.inl ⟨rfl, rfl⟩) rfl rfl (Nat.le_of_ble_eq_true rfl) (Nat.le_of_ble_eq_true rfl) (g_Sheet_inSome hv10) (f_Sheet_inSome sp (d + 4) N S4 q8 _ hv10) ?_
              refine pE_weak [none, none, none, none] trivial ?_
              exact f_BP_sure_50 sp d N v10 S9 _ h
          · have c11 := Decidable.not_not.mp c11
            rw [if_pos c11] at h
            refine pE_jump 1 (pc' := 34) (ls' := [some (.ref a), some (.int p0), some (.int p1), some (.ref q2)]) (st' := [.ref q2]) (fun _ => rfl) ?_
            obtain ⟨oq5, hq5, h⟩ := obind h
            cases oq5 with
            | none => cases h
            | some q5 =>
              try dsimp only at h
              refine pE_gfS rfl rfl hq5 ?_
              obtain ⟨⟨v7, S6⟩, hv7, h⟩ := obind h
              try dsimp only at h
              refine pE_iv (Bs := []) (st := []) 1 rfl (Or.inl ⟨rfl, rfl⟩) rfl rfl (Nat.le_of_ble_eq_true rfl) (Nat.le_of_ble_eq_true rfl) (g_Sheet_inAll hv7) (f_Sheet_inAll sp (d + 4) N S4 q5 _ hv7) ?_
              refine pE_jump 1 (pc' := 50) (ls' := [some (.ref a), some (.int p0), some (.int p1), some (.ref q2)]) (st' := [.int v7]) (fun _ => rfl) ?_
              refine pE_weak [none, none, none, none] trivial ?_
              exact f_BP_sure_50 sp d N v7 S6 _ h
      · rw [if_neg c12] at h
        refine pE_weak [none, none, none, none] trivial ?_
        exact f_BP_sure_19 sp d N S1 _ h
def F_Bench_partFits_162 (N : Nat)   (S : pm_S) : Option pm_S :=
    some S
set_option maxHeartbeats 4000000 in
set_option maxRecDepth 20000 in
theorem f_Bench_partFits_162 (sp : pm_I → List Value → pm_S → pm_O → Prop) (d N : Nat)   (S : pm_S)  (r : pm_S) (h : F_Bench_partFits_162 N   S = some r) : pmE pG (pm_rel pG sp (d + 2)) mi_Bench_partFits 162 [none, none, none, none, none, none, none, none] [] S (none, r) := by
  unfold F_Bench_partFits_162 at h
  cases h
  exact pE_ret rfl rfl rfl
def B_Bench_partFits_118 (N : Nat)  (rec118 : Int32 → pm_S → Option pm_S) (x0 : Nat) (x1 : Nat) (x4 : Int32) (x5 : Int32) (S : pm_S) : Option pm_S :=
    (oR S x1 4 11).bind fun oq7 => match oq7 with
    | none => none
    | some q7 =>
    (oI S q7 5 3).bind fun v8 =>
    if v8 ≤ x5 then
    F_Bench_partFits_162 N S
    else
    ((oR S x0 0 3).bind fun oq9 => match oq9 with
    | none => none
    | some q9 =>
    (oR S x1 4 11).bind fun oq19 => match oq19 with
    | none => none
    | some q19 =>
    (oR S x1 4 11).bind fun oq23 => match oq23 with
    | none => none
    | some q23 =>
    (F_Sheet_fitAt N S q23 x5).bind fun (v25, S24) =>
    (F_Sheet_written N S24 q19 x4 v25).bind fun (v27, S26) =>
    (F_BP_setAt N S26 q9 v27 0).bind fun S28 =>
    rec118 (x5 + 1) S28)
def F_Bench_partFits_118 (N : Nat)  (x0 : Nat) (x1 : Nat) (x4 : Int32) : Nat → Int32 → pm_S → Option pm_S
  | 0 => fun _ _ => none
  | n + 1 => fun x5 S => B_Bench_partFits_118 N  (F_Bench_partFits_118 N  x0 x1 x4 n) x0 x1 x4 x5 S
set_option maxHeartbeats 4000000 in
set_option maxRecDepth 20000 in
theorem f_Bench_partFits_118 (sp : pm_I → List Value → pm_S → pm_O → Prop) (d N : Nat)  (x0 : Nat) (x1 : Nat) (x4 : Int32)  : ∀ (n : Nat) (x5 : Int32) (S : pm_S) (r : pm_S), F_Bench_partFits_118 N  x0 x1 x4 n x5 S = some r → pmE pG (pm_rel pG sp (d + 2)) mi_Bench_partFits 118 [some (.ref x0), some (.ref x1), none, none, some (.int x4), some (.int x5), none, none] [] S (none, r) := by
  intro n
  induction n with
  | zero =>
    intro x5 S r h
    cases h
  | succ n ih =>
    intro x5 S r h
    replace h : B_Bench_partFits_118 N  (F_Bench_partFits_118 N  x0 x1 x4 n) x0 x1 x4 x5 S = some r := h
    have hrec118 := ih
    generalize F_Bench_partFits_118 N  x0 x1 x4 n = rec118 at h hrec118
    unfold B_Bench_partFits_118 at h
    refine pE_jump 2 (pc' := 121) (ls' := [some (.ref x0), some (.ref x1), none, none, some (.int x4), some (.int x5), none, none]) (st' := [.ref x1, .int x5]) (fun _ => rfl) ?_
    obtain ⟨oq7, hq7, h⟩ := obind h
    cases oq7 with
    | none => cases h
    | some q7 =>
      try dsimp only at h
      refine pE_gfS rfl rfl hq7 ?_
      obtain ⟨v8, hv8, h⟩ := obind h
      refine pE_gfI rfl rfl hv8 ?_
      refine pE_br (v8 ≤ x5) rfl rfl (fun c29 => ?_) (fun c29 => ?_)
      · rw [if_pos c29] at h
        refine pE_weak [none, none, none, none, none, none, none, none] trivial ?_
        exact f_Bench_partFits_162 sp d N S _ h
      · rw [if_neg c29] at h
        refine pE_jump 1 (pc' := 131) (ls' := [some (.ref x0), some (.ref x1), none, none, some (.int x4), some (.int x5), none, none]) (st' := [.ref x0]) (fun _ => rfl) ?_
        obtain ⟨oq9, hq9, h⟩ := obind h
        cases oq9 with
        | none => cases h
        | some q9 =>
          try dsimp only at h
          refine pE_gfS rfl rfl hq9 ?_
          refine pE_jump 1 (pc' := 135) (ls' := [some (.ref x0), some (.ref x1), none, none, some (.int x4), some (.int x5), none, none]) (st' := [.ref x1, .ref q9]) (fun _ => rfl) ?_
          obtain ⟨oq19, hq19, h⟩ := obind h
          cases oq19 with
          | none => cases h
          | some q19 =>
            try dsimp only at h
            refine pE_gfS rfl rfl hq19 ?_
            refine pE_jump 2 (pc' := 141) (ls' := [some (.ref x0), some (.ref x1), none, none, some (.int x4), some (.int x5), none, none]) (st' := [.ref x1, .int x4, .ref q19, .ref q9]) (fun _ => rfl) ?_
            obtain ⟨oq23, hq23, h⟩ := obind h
            cases oq23 with
            | none => cases h
            | some q23 =>
              try dsimp only at h
              refine pE_gfS rfl rfl hq23 ?_
              refine pE_jump 1 (pc' := 146) (ls' := [some (.ref x0), some (.ref x1), none, none, some (.int x4), some (.int x5), none, none]) (st' := [.int x5, .ref q23, .int x4, .ref q19, .ref q9]) (fun _ => rfl) ?_
              obtain ⟨⟨v25, S24⟩, hv25, h⟩ := obind h
              try dsimp only at h
              refine pE_iv (Bs := [.int x5]) (st := [.int x4, .ref q19, .ref q9]) 1 rfl (Or.inl ⟨rfl, rfl⟩) rfl rfl (Nat.le_of_ble_eq_true rfl) (Nat.le_of_ble_eq_true rfl) (g_Sheet_fitAt hv25) (f_Sheet_fitAt sp d N S q23 x5 _ hv25) ?_
              obtain ⟨⟨v27, S26⟩, hv27, h⟩ := obind h
              try dsimp only at h
              refine pE_iv (Bs := [.int x4, .int v25]) (st := [.ref q9]) 1 rfl (Or.inl ⟨rfl, rfl⟩) rfl rfl (Nat.le_of_ble_eq_true rfl) (Nat.le_of_ble_eq_true rfl) (g_Sheet_written hv27) (f_Sheet_written sp d N S24 q19 x4 v25 _ hv27) ?_
              refine pE_jump 1 (pc' := 153) (ls' := [some (.ref x0), some (.ref x1), none, none, some (.int x4), some (.int x5), none, none]) (st' := [.int 0, .int v27, .ref q9]) (fun _ => rfl) ?_
              obtain ⟨S28, hS28, h⟩ := obind h
              refine pE_is (Bs := [.ref q9, .int v27, .int 0]) (st := []) rfl rfl rfl (Nat.le_of_ble_eq_true rfl) (Nat.le_of_ble_eq_true rfl) (f_BP_setAt sp (d + 1) N S26 q9 v27 0 _ hS28) ?_
              refine pE_jump 2 (pc' := 118) (ls' := [some (.ref x0), some (.ref x1), none, none, some (.int x4), some (.int (x5 + 1)), none, none]) (st' := []) (fun _ => rfl) ?_
              exact hrec118 (x5 + 1) S28 _ h
def F_Bench_partFits_115 (N : Nat)  (x0 : Nat) (x1 : Nat) (x4 : Int32) (S : pm_S) : Option pm_S :=
    F_Bench_partFits_118 N x0 x1 x4 N 0 S
set_option maxHeartbeats 4000000 in
set_option maxRecDepth 20000 in
theorem f_Bench_partFits_115 (sp : pm_I → List Value → pm_S → pm_O → Prop) (d N : Nat)  (x0 : Nat) (x1 : Nat) (x4 : Int32) (S : pm_S)  (r : pm_S) (h : F_Bench_partFits_115 N  x0 x1 x4 S = some r) : pmE pG (pm_rel pG sp (d + 2)) mi_Bench_partFits 115 [some (.ref x0), some (.ref x1), none, none, some (.int x4), none, none, none] [] S (none, r) := by
  unfold F_Bench_partFits_115 at h
  refine pE_jump 2 (pc' := 118) (ls' := [some (.ref x0), some (.ref x1), none, none, some (.int x4), some (.int 0), none, none]) (st' := []) (fun _ => rfl) ?_
  exact f_Bench_partFits_118 sp d N x0 x1 x4 N 0 S _ h
def F_Bench_partFits_92 (N : Nat) (rec20 : Int32 → pm_S → Option pm_S) (x0 : Nat) (x1 : Nat) (x4 : Int32) (x5 : Int32) (x7 : Int32) (t0 : Int32) (t1 : Int32) (t2 : Nat) (S : pm_S) : Option pm_S :=
    (wF S t2 0 5 .int (.int (t1 + t0))).bind fun S45 =>
    (oI S45 x0 0 4).bind fun v46 =>
    (wF S45 x0 0 4 .int (.int (if v46 < x7 then x7 else v46))).bind fun S47 =>
    rec20 (x5 + 1) S47
set_option maxHeartbeats 4000000 in
set_option maxRecDepth 20000 in
theorem f_Bench_partFits_92 (sp : pm_I → List Value → pm_S → pm_O → Prop) (d N : Nat) (rec20 : Int32 → pm_S → Option pm_S) (x0 : Nat) (x1 : Nat) (x4 : Int32) (x5 : Int32) (x7 : Int32) (t0 : Int32) (t1 : Int32) (t2 : Nat) (S : pm_S) (hrec20 : ∀ (y1 : Int32) (U : pm_S) (r : pm_S), rec20 y1 U = some r → pmE pG (pm_rel pG sp (d + 2)) mi_Bench_partFits 20 [some (.ref x0), some (.ref x1), none, none, some (.int x4), some (.int y1), none, none] [] U (none, r)) (r : pm_S) (h : F_Bench_partFits_92 N rec20 x0 x1 x4 x5 x7 t0 t1 t2 S = some r) : pmE pG (pm_rel pG sp (d + 2)) mi_Bench_partFits 92 [some (.ref x0), some (.ref x1), none, none, some (.int x4), some (.int x5), none, some (.int x7)] [.int t0, .int t1, .ref t2] S (none, r) := by
  unfold F_Bench_partFits_92 at h
  refine pE_jump 1 (pc' := 93) (ls' := [some (.ref x0), some (.ref x1), none, none, some (.int x4), some (.int x5), none, some (.int x7)]) (st' := [.int (t1 + t0), .ref t2]) (fun _ => rfl) ?_
  obtain ⟨S45, hS45, h⟩ := obind h
  refine pE_pf rfl rfl rfl hS45 ?_
  refine pE_jump 2 (pc' := 98) (ls' := [some (.ref x0), some (.ref x1), none, none, some (.int x4), some (.int x5), none, some (.int x7)]) (st' := [.ref x0, .ref x0]) (fun _ => rfl) ?_
  obtain ⟨v46, hv46, h⟩ := obind h
  refine pE_gfI rfl rfl hv46 ?_
  refine pE_jump 1 (pc' := 103) (ls' := [some (.ref x0), some (.ref x1), none, none, some (.int x4), some (.int x5), none, some (.int x7)]) (st' := [.int x7, .int v46, .ref x0]) (fun _ => rfl) ?_
  refine pE_mx 5 rfl rfl (Nat.le_of_ble_eq_true rfl) rfl ?_
  obtain ⟨S47, hS47, h⟩ := obind h
  refine pE_pf rfl rfl rfl hS47 ?_
  refine pE_jump 2 (pc' := 20) (ls' := [some (.ref x0), some (.ref x1), none, none, some (.int x4), some (.int (x5 + 1)), none, some (.int x7)]) (st' := []) (fun _ => rfl) ?_
  refine pE_weak [some (.ref x0), some (.ref x1), none, none, some (.int x4), some (.int (x5 + 1)), none, none] ⟨rfl, ⟨rfl, ⟨rfl, ⟨rfl, trivial⟩⟩⟩⟩ ?_
  exact hrec20 (x5 + 1) S47 _ h
def B_Bench_partFits_20 (N : Nat)  (rec20 : Int32 → pm_S → Option pm_S) (x0 : Nat) (x1 : Nat) (x4 : Int32) (x5 : Int32) (S : pm_S) : Option pm_S :=
    (oR S x1 4 11).bind fun oq5 => match oq5 with
    | none => none
    | some q5 =>
    (oI S q5 5 3).bind fun v6 =>
    if v6 ≤ x5 then
    F_Bench_partFits_115 N x0 x1 x4 S
    else
    ((oR S x1 4 11).bind fun oq30 => match oq30 with
    | none => none
    | some q30 =>
    (oR S x1 4 11).bind fun oq34 => match oq34 with
    | none => none
    | some q34 =>
    (F_Sheet_fitAt N S q34 x5).bind fun (v36, S35) =>
    (F_Sheet_written N S35 q30 x4 v36).bind fun (v38, S37) =>
    (oR S37 x0 0 3).bind fun oq39 => match oq39 with
    | none => none
    | some q39 =>
    (F_BP_valueAt N S37 q39 v38).bind fun (v41, S40) =>
    (oR S40 x0 0 3).bind fun oq42 => match oq42 with
    | none => none
    | some q42 =>
    (F_BP_setAt N S40 q42 v38 (v41 + 1)).bind fun S43 =>
    (oI S43 x0 0 5).bind fun v44 =>
    if (v41 + 1) = 1 then
    F_Bench_partFits_92 N rec20 x0 x1 x4 x5 (v41 + 1) 1 v44 x0 S43
    else
    F_Bench_partFits_92 N rec20 x0 x1 x4 x5 (v41 + 1) 0 v44 x0 S43)
def F_Bench_partFits_20 (N : Nat)  (x0 : Nat) (x1 : Nat) (x4 : Int32) : Nat → Int32 → pm_S → Option pm_S
  | 0 => fun _ _ => none
  | n + 1 => fun x5 S => B_Bench_partFits_20 N  (F_Bench_partFits_20 N  x0 x1 x4 n) x0 x1 x4 x5 S
set_option maxHeartbeats 4000000 in
set_option maxRecDepth 20000 in
theorem f_Bench_partFits_20 (sp : pm_I → List Value → pm_S → pm_O → Prop) (d N : Nat)  (x0 : Nat) (x1 : Nat) (x4 : Int32)  : ∀ (n : Nat) (x5 : Int32) (S : pm_S) (r : pm_S), F_Bench_partFits_20 N  x0 x1 x4 n x5 S = some r → pmE pG (pm_rel pG sp (d + 2)) mi_Bench_partFits 20 [some (.ref x0), some (.ref x1), none, none, some (.int x4), some (.int x5), none, none] [] S (none, r) := by
  intro n
  induction n with
  | zero =>
    intro x5 S r h
    cases h
  | succ n ih =>
    intro x5 S r h
    replace h : B_Bench_partFits_20 N  (F_Bench_partFits_20 N  x0 x1 x4 n) x0 x1 x4 x5 S = some r := h
    have hrec20 := ih
    generalize F_Bench_partFits_20 N  x0 x1 x4 n = rec20 at h hrec20
    unfold B_Bench_partFits_20 at h
    refine pE_jump 2 (pc' := 23) (ls' := [some (.ref x0), some (.ref x1), none, none, some (.int x4), some (.int x5), none, none]) (st' := [.ref x1, .int x5]) (fun _ => rfl) ?_
    obtain ⟨oq5, hq5, h⟩ := obind h
    cases oq5 with
    | none => cases h
    | some q5 =>
      try dsimp only at h
      refine pE_gfS rfl rfl hq5 ?_
      obtain ⟨v6, hv6, h⟩ := obind h
      refine pE_gfI rfl rfl hv6 ?_
      refine pE_br (v6 ≤ x5) rfl rfl (fun c49 => ?_) (fun c49 => ?_)
      · rw [if_pos c49] at h
        refine pE_weak [some (.ref x0), some (.ref x1), none, none, some (.int x4), none, none, none] ⟨rfl, ⟨rfl, ⟨rfl, trivial⟩⟩⟩ ?_
        exact f_Bench_partFits_115 sp d N x0 x1 x4 S _ h
      · rw [if_neg c49] at h
        refine pE_jump 1 (pc' := 33) (ls' := [some (.ref x0), some (.ref x1), none, none, some (.int x4), some (.int x5), none, none]) (st' := [.ref x1]) (fun _ => rfl) ?_
        obtain ⟨oq30, hq30, h⟩ := obind h
        cases oq30 with
        | none => cases h
        | some q30 =>
          try dsimp only at h
          refine pE_gfS rfl rfl hq30 ?_
          refine pE_jump 2 (pc' := 39) (ls' := [some (.ref x0), some (.ref x1), none, none, some (.int x4), some (.int x5), none, none]) (st' := [.ref x1, .int x4, .ref q30]) (fun _ => rfl) ?_
          obtain ⟨oq34, hq34, h⟩ := obind h
          cases oq34 with
          | none => cases h
          | some q34 =>
            try dsimp only at h
            refine pE_gfS rfl rfl hq34 ?_
            refine pE_jump 1 (pc' := 44) (ls' := [some (.ref x0), some (.ref x1), none, none, some (.int x4), some (.int x5), none, none]) (st' := [.int x5, .ref q34, .int x4, .ref q30]) (fun _ => rfl) ?_
            obtain ⟨⟨v36, S35⟩, hv36, h⟩ := obind h
            try dsimp only at h
            refine pE_iv (Bs := [.int x5]) (st := [.int x4, .ref q30]) 1 rfl (Or.inl ⟨rfl, rfl⟩) rfl rfl (Nat.le_of_ble_eq_true rfl) (Nat.le_of_ble_eq_true rfl) (g_Sheet_fitAt hv36) (f_Sheet_fitAt sp d N S q34 x5 _ hv36) ?_
            obtain ⟨⟨v38, S37⟩, hv38, h⟩ := obind h
            try dsimp only at h
            refine pE_iv (Bs := [.int x4, .int v36]) (st := []) 1 rfl (Or.inl ⟨rfl, rfl⟩) rfl rfl (Nat.le_of_ble_eq_true rfl) (Nat.le_of_ble_eq_true rfl) (g_Sheet_written hv38) (f_Sheet_written sp d N S35 q30 x4 v36 _ hv38) ?_
            refine pE_jump 2 (pc' := 53) (ls' := [some (.ref x0), some (.ref x1), none, none, some (.int x4), some (.int x5), some (.int v38), none]) (st' := [.ref x0]) (fun _ => rfl) ?_
            obtain ⟨oq39, hq39, h⟩ := obind h
            cases oq39 with
            | none => cases h
            | some q39 =>
              try dsimp only at h
              refine pE_gfS rfl rfl hq39 ?_
              refine pE_jump 1 (pc' := 58) (ls' := [some (.ref x0), some (.ref x1), none, none, some (.int x4), some (.int x5), some (.int v38), none]) (st' := [.int v38, .ref q39]) (fun _ => rfl) ?_
              obtain ⟨⟨v41, S40⟩, hv41, h⟩ := obind h
              try dsimp only at h
              refine pE_is (Bs := [.ref q39, .int v38]) (st := []) rfl rfl rfl (Nat.le_of_ble_eq_true rfl) (Nat.le_of_ble_eq_true rfl) (f_BP_valueAt sp (d + 1) N S37 q39 v38 _ hv41) ?_
              refine pE_jump 4 (pc' := 66) (ls' := [some (.ref x0), some (.ref x1), none, none, some (.int x4), some (.int x5), some (.int v38), some (.int (v41 + 1))]) (st' := [.ref x0]) (fun _ => rfl) ?_
              obtain ⟨oq42, hq42, h⟩ := obind h
              cases oq42 with
              | none => cases h
              | some q42 =>
                try dsimp only at h
                refine pE_gfS rfl rfl hq42 ?_
                refine pE_jump 2 (pc' := 73) (ls' := [some (.ref x0), some (.ref x1), none, none, some (.int x4), some (.int x5), some (.int v38), some (.int (v41 + 1))]) (st' := [.int (v41 + 1), .int v38, .ref q42]) (fun _ => rfl) ?_
                obtain ⟨S43, hS43, h⟩ := obind h
                refine pE_is (Bs := [.ref q42, .int v38, .int (v41 + 1)]) (st := []) rfl rfl rfl (Nat.le_of_ble_eq_true rfl) (Nat.le_of_ble_eq_true rfl) (f_BP_setAt sp (d + 1) N S40 q42 v38 (v41 + 1) _ hS43) ?_
                refine pE_jump 2 (pc' := 78) (ls' := [some (.ref x0), some (.ref x1), none, none, some (.int x4), some (.int x5), some (.int v38), some (.int (v41 + 1))]) (st' := [.ref x0, .ref x0]) (fun _ => rfl) ?_
                obtain ⟨v44, hv44, h⟩ := obind h
                refine pE_gfI rfl rfl hv44 ?_
                refine pE_jump 2 (pc' := 84) (ls' := [some (.ref x0), some (.ref x1), none, none, some (.int x4), some (.int x5), some (.int v38), some (.int (v41 + 1))]) (st' := [.int 1, .int (v41 + 1), .int v44, .ref x0]) (fun _ => rfl) ?_
                refine pE_br (¬ (v41 + 1) = 1) rfl rfl (fun c48 => ?_) (fun c48 => ?_)
                · rw [if_neg c48] at h
                  refine pE_jump 1 (pc' := 92) (ls' := [some (.ref x0), some (.ref x1), none, none, some (.int x4), some (.int x5), some (.int v38), some (.int (v41 + 1))]) (st' := [.int 0, .int v44, .ref x0]) (fun _ => rfl) ?_
                  refine pE_weak [some (.ref x0), some (.ref x1), none, none, some (.int x4), some (.int x5), none, some (.int (v41 + 1))] ⟨rfl, ⟨rfl, ⟨rfl, ⟨rfl, ⟨rfl, trivial⟩⟩⟩⟩⟩ ?_
                  exact f_Bench_partFits_92 sp d N rec20 x0 x1 x4 x5 (v41 + 1) 0 v44 x0 S43 hrec20 _ h
                · have c48 := Decidable.not_not.mp c48
                  rw [if_pos c48] at h
                  refine pE_jump 2 (pc' := 92) (ls' := [some (.ref x0), some (.ref x1), none, none, some (.int x4), some (.int x5), some (.int v38), some (.int (v41 + 1))]) (st' := [.int 1, .int v44, .ref x0]) (fun _ => rfl) ?_
                  refine pE_weak [some (.ref x0), some (.ref x1), none, none, some (.int x4), some (.int x5), none, some (.int (v41 + 1))] ⟨rfl, ⟨rfl, ⟨rfl, ⟨rfl, ⟨rfl, trivial⟩⟩⟩⟩⟩ ?_
                  exact f_Bench_partFits_92 sp d N rec20 x0 x1 x4 x5 (v41 + 1) 1 v44 x0 S43 hrec20 _ h
def F_Bench_partFits (N : Nat) (S : pm_S) (a : Nat) (p0 : Nat) (p1 : Int32) (p2 : Int32) : Option pm_S :=
    if rcv S a 0 = true then
    ((F_Sheet_columnOf N S p1 p2).bind fun (v2, S1) =>
    (wF S1 a 0 4 .int (.int 0)).bind fun S3 =>
    (wF S3 a 0 5 .int (.int 0)).bind fun S4 =>
    F_Bench_partFits_20 N a p0 v2 N 0 S4)
    else none
theorem g_Bench_partFits {N : Nat} {S : pm_S} {a : Nat} {p0 : Nat} {p1 : Int32} {p2 : Int32} {r : pm_S} (h : F_Bench_partFits N S a p0 p1 p2 = some r) : rcv S a 0 = true := by
  unfold F_Bench_partFits at h
  by_cases c : rcv S a 0 = true
  · exact c
  · rw [if_neg c] at h; cases h
set_option maxHeartbeats 4000000 in
set_option maxRecDepth 20000 in
theorem f_Bench_partFits (sp : pm_I → List Value → pm_S → pm_O → Prop) (d N : Nat) (S : pm_S) (a : Nat) (p0 : Nat) (p1 : Int32) (p2 : Int32) (r : pm_S) (h : F_Bench_partFits N S a p0 p1 p2 = some r) : pm_rel pG sp (d + 3) mi_Bench_partFits [.ref a, .ref p0, .int p1, .int p2] S (none, r) := by
  have hg := g_Bench_partFits h
  unfold F_Bench_partFits at h
  rw [if_pos hg] at h
  refine pE_rel (d := d + 2) ?_
  show pmE pG _ mi_Bench_partFits 0 [some (.ref a), some (.ref p0), some (.int p1), some (.int p2), none, none, none, none] [] S _
  refine pE_jump 2 (pc' := 2) (ls' := [some (.ref a), some (.ref p0), some (.int p1), some (.int p2), none, none, none, none]) (st' := [.int p2, .int p1]) (fun _ => rfl) ?_
  obtain ⟨⟨v2, S1⟩, hv2, h⟩ := obind h
  try dsimp only at h
  refine pE_is (Bs := [.int p1, .int p2]) (st := []) rfl rfl rfl (Nat.le_of_ble_eq_true rfl) (Nat.le_of_ble_eq_true rfl) (f_Sheet_columnOf sp (d + 1) N S p1 p2 _ hv2) ?_
  refine pE_jump 3 (pc' := 9) (ls' := [some (.ref a), some (.ref p0), some (.int p1), some (.int p2), some (.int v2), none, none, none]) (st' := [.int 0, .ref a]) (fun _ => rfl) ?_
  obtain ⟨S3, hS3, h⟩ := obind h
  refine pE_pf rfl rfl rfl hS3 ?_
  refine pE_jump 2 (pc' := 14) (ls' := [some (.ref a), some (.ref p0), some (.int p1), some (.int p2), some (.int v2), none, none, none]) (st' := [.int 0, .ref a]) (fun _ => rfl) ?_
  obtain ⟨S4, hS4, h⟩ := obind h
  refine pE_pf rfl rfl rfl hS4 ?_
  refine pE_jump 2 (pc' := 20) (ls' := [some (.ref a), some (.ref p0), some (.int p1), some (.int p2), some (.int v2), some (.int 0), none, none]) (st' := []) (fun _ => rfl) ?_
  refine pE_weak [some (.ref a), some (.ref p0), none, none, some (.int v2), some (.int 0), none, none] ⟨rfl, ⟨rfl, ⟨rfl, ⟨rfl, trivial⟩⟩⟩⟩ ?_
  exact f_Bench_partFits_20 sp d N a p0 v2 N 0 S4 _ h
def F_BP_parts_35 (N : Nat)   (S : pm_S) : Option (Int32 × pm_S) :=
    some ((-1), S)
set_option maxHeartbeats 4000000 in
set_option maxRecDepth 20000 in
theorem f_BP_parts_35 (sp : pm_I → List Value → pm_S → pm_O → Prop) (d N : Nat)   (S : pm_S)  (r : (Int32 × pm_S)) (h : F_BP_parts_35 N   S = some r) : pmE pG (pm_rel pG sp (d + 7)) mi_BP_parts 35 [none, none, none, none, none, none] [] S (some (.int r.1), r.2) := by
  unfold F_BP_parts_35 at h
  refine pE_jump 1 (pc' := 36) (ls' := [none, none, none, none, none, none]) (st' := [.int (-1)]) (fun _ => rfl) ?_
  cases h
  exact pE_ret rfl rfl rfl
def F_BP_parts_95 (N : Nat)  (t0 : Int32) (S : pm_S) : Option (Int32 × pm_S) :=
    some (t0, S)
set_option maxHeartbeats 4000000 in
set_option maxRecDepth 20000 in
theorem f_BP_parts_95 (sp : pm_I → List Value → pm_S → pm_O → Prop) (d N : Nat)  (t0 : Int32) (S : pm_S)  (r : (Int32 × pm_S)) (h : F_BP_parts_95 N  t0 S = some r) : pmE pG (pm_rel pG sp (d + 7)) mi_BP_parts 95 [none, none, none, none, none, none] [.int t0] S (some (.int r.1), r.2) := by
  unfold F_BP_parts_95 at h
  cases h
  exact pE_ret rfl rfl rfl
def F_BP_parts (N : Nat) (S : pm_S) (a : Nat) (p0 : Int32) (p1 : Int32) (p2 : Int32) (p3 : Int32) : Option (Int32 × pm_S) :=
    if rcv S a 10 = true then
    ((F_BP_planAt N S a p0).bind fun (oq2, S1) => match oq2 with
    | none => F_BP_parts_35 N S1
    | some q2 =>
    (oR S1 q2 4 8).bind fun oq3 => match oq3 with
    | none => none
    | some q3 =>
    (F_Ledger_has N S1 q3 p1).bind fun (v5, S4) =>
    if v5 = 0 then
    F_BP_parts_35 N S4
    else
    (if p3 < 0 then
    F_BP_parts_35 N S4
    else
    (if p3 ≤ 1 then
    ((oR S4 a 10 3).bind fun oq6 => match oq6 with
    | none => none
    | some q6 =>
    (F_Bench_findFits N S4 q6 q2).bind fun S7 =>
    (oR S7 a 10 3).bind fun oq8 => match oq8 with
    | none => none
    | some q8 =>
    (F_Sheet_columnOf N S7 p1 p2).bind fun (v12, S11) =>
    (F_Bench_fill N S11 q8 q2 (1 <<< (v12 &&& 31))).bind fun S13 =>
    (oR S13 a 10 3).bind fun oq14 => match oq14 with
    | none => none
    | some q14 =>
    (F_Bench_partFits N S13 q14 q2 p1 p2).bind fun S15 =>
    if p3 = 0 then
    ((oR S15 a 10 3).bind fun oq16 => match oq16 with
    | none => none
    | some q16 =>
    (oI S15 q16 0 4).bind fun v17 =>
    F_BP_parts_95 N v17 S15)
    else
    ((oR S15 a 10 3).bind fun oq18 => match oq18 with
    | none => none
    | some q18 =>
    (oI S15 q18 0 5).bind fun v19 =>
    F_BP_parts_95 N v19 S15))
    else
    F_BP_parts_35 N S4)))
    else none
theorem g_BP_parts {N : Nat} {S : pm_S} {a : Nat} {p0 : Int32} {p1 : Int32} {p2 : Int32} {p3 : Int32} {r : (Int32 × pm_S)} (h : F_BP_parts N S a p0 p1 p2 p3 = some r) : rcv S a 10 = true := by
  unfold F_BP_parts at h
  by_cases c : rcv S a 10 = true
  · exact c
  · rw [if_neg c] at h; cases h
set_option maxHeartbeats 4000000 in
set_option maxRecDepth 20000 in
theorem f_BP_parts (sp : pm_I → List Value → pm_S → pm_O → Prop) (d N : Nat) (S : pm_S) (a : Nat) (p0 : Int32) (p1 : Int32) (p2 : Int32) (p3 : Int32) (r : (Int32 × pm_S)) (h : F_BP_parts N S a p0 p1 p2 p3 = some r) : pm_rel pG sp (d + 8) mi_BP_parts [.ref a, .int p0, .int p1, .int p2, .int p3] S (some (.int r.1), r.2) := by
  have hg := g_BP_parts h
  unfold F_BP_parts at h
  rw [if_pos hg] at h
  refine pE_rel (d := d + 7) ?_
  show pmE pG _ mi_BP_parts 0 [some (.ref a), some (.int p0), some (.int p1), some (.int p2), some (.int p3), none] [] S _
  refine pE_jump 2 (pc' := 2) (ls' := [some (.ref a), some (.int p0), some (.int p1), some (.int p2), some (.int p3), none]) (st' := [.int p0, .ref a]) (fun _ => rfl) ?_
  obtain ⟨⟨oq2, S1⟩, hq2, h⟩ := obind h
  try dsimp only at h
  cases oq2 with
  | none =>
    try dsimp only at h
    refine pE_iv (Bs := [.int p0]) (st := []) 1 rfl (Or.inl ⟨rfl, rfl⟩) rfl rfl (Nat.le_of_ble_eq_true rfl) (Nat.le_of_ble_eq_true rfl) (g_BP_planAt hq2) (f_BP_planAt sp (d + 6) N S a p0 _ hq2) ?_
    refine pE_jump 3 (pc' := 35) (ls' := [some (.ref a), some (.int p0), some (.int p1), some (.int p2), some (.int p3), some (.null)]) (st' := []) (fun _ => rfl) ?_
    refine pE_weak [none, none, none, none, none, none] trivial ?_
    exact f_BP_parts_35 sp d N S1 _ h
  | some q2 =>
    try dsimp only at h
    refine pE_iv (Bs := [.int p0]) (st := []) 1 rfl (Or.inl ⟨rfl, rfl⟩) rfl rfl (Nat.le_of_ble_eq_true rfl) (Nat.le_of_ble_eq_true rfl) (g_BP_planAt hq2) (f_BP_planAt sp (d + 6) N S a p0 _ hq2) ?_
    refine pE_jump 4 (pc' := 14) (ls' := [some (.ref a), some (.int p0), some (.int p1), some (.int p2), some (.int p3), some (.ref q2)]) (st' := [.ref q2]) (fun _ => rfl) ?_
    obtain ⟨oq3, hq3, h⟩ := obind h
    cases oq3 with
    | none => cases h
    | some q3 =>
      try dsimp only at h
      refine pE_gfS rfl rfl hq3 ?_
      refine pE_jump 1 (pc' := 18) (ls' := [some (.ref a), some (.int p0), some (.int p1), some (.int p2), some (.int p3), some (.ref q2)]) (st' := [.int p1, .ref q3]) (fun _ => rfl) ?_
      obtain ⟨⟨v5, S4⟩, hv5, h⟩ := obind h
      try dsimp only at h
      refine pE_iv (Bs := [.int p1]) (st := []) 1 rfl (Or.inl ⟨rfl, rfl⟩) rfl rfl (Nat.le_of_ble_eq_true rfl) (Nat.le_of_ble_eq_true rfl) (g_Ledger_has hv5) (f_Ledger_has sp (d + 6) N S1 q3 p1 _ hv5) ?_
      refine pE_br (v5 = 0) rfl rfl (fun c23 => ?_) (fun c23 => ?_)
      · rw [if_pos c23] at h
        refine pE_weak [none, none, none, none, none, none] trivial ?_
        exact f_BP_parts_35 sp d N S4 _ h
      · rw [if_neg c23] at h
        refine pE_jump 1 (pc' := 26) (ls' := [some (.ref a), some (.int p0), some (.int p1), some (.int p2), some (.int p3), some (.ref q2)]) (st' := [.int p3]) (fun _ => rfl) ?_
        refine pE_br (p3 < 0) rfl rfl (fun c22 => ?_) (fun c22 => ?_)
        · rw [if_pos c22] at h
          refine pE_weak [none, none, none, none, none, none] trivial ?_
          exact f_BP_parts_35 sp d N S4 _ h
        · rw [if_neg c22] at h
          refine pE_jump 2 (pc' := 32) (ls' := [some (.ref a), some (.int p0), some (.int p1), some (.int p2), some (.int p3), some (.ref q2)]) (st' := [.int 1, .int p3]) (fun _ => rfl) ?_
          refine pE_br (p3 ≤ 1) rfl rfl (fun c21 => ?_) (fun c21 => ?_)
          · rw [if_pos c21] at h
            refine pE_jump 1 (pc' := 38) (ls' := [some (.ref a), some (.int p0), some (.int p1), some (.int p2), some (.int p3), some (.ref q2)]) (st' := [.ref a]) (fun _ => rfl) ?_
            obtain ⟨oq6, hq6, h⟩ := obind h
            cases oq6 with
            | none => cases h
            | some q6 =>
              try dsimp only at h
              refine pE_gfS rfl rfl hq6 ?_
              refine pE_jump 1 (pc' := 43) (ls' := [some (.ref a), some (.int p0), some (.int p1), some (.int p2), some (.int p3), some (.ref q2)]) (st' := [.ref q2, .ref q6]) (fun _ => rfl) ?_
              obtain ⟨S7, hS7, h⟩ := obind h
              refine pE_iv (Bs := [.ref q2]) (st := []) 1 rfl (Or.inl ⟨rfl, rfl⟩) rfl rfl (Nat.le_of_ble_eq_true rfl) (Nat.le_of_ble_eq_true rfl) (g_Bench_findFits hS7) (f_Bench_findFits sp d N S4 q6 q2 _ hS7) ?_
              refine pE_jump 1 (pc' := 47) (ls' := [some (.ref a), some (.int p0), some (.int p1), some (.int p2), some (.int p3), some (.ref q2)]) (st' := [.ref a]) (fun _ => rfl) ?_
              obtain ⟨oq8, hq8, h⟩ := obind h
              cases oq8 with
              | none => cases h
              | some q8 =>
                try dsimp only at h
                refine pE_gfS rfl rfl hq8 ?_
                refine pE_jump 4 (pc' := 55) (ls' := [some (.ref a), some (.int p0), some (.int p1), some (.int p2), some (.int p3), some (.ref q2)]) (st' := [.int p2, .int p1, .int 1, .ref q2, .ref q8]) (fun _ => rfl) ?_
                obtain ⟨⟨v12, S11⟩, hv12, h⟩ := obind h
                try dsimp only at h
                refine pE_is (Bs := [.int p1, .int p2]) (st := [.int 1, .ref q2, .ref q8]) rfl rfl rfl (Nat.le_of_ble_eq_true rfl) (Nat.le_of_ble_eq_true rfl) (f_Sheet_columnOf sp (d + 6) N S7 p1 p2 _ hv12) ?_
                refine pE_jump 1 (pc' := 59) (ls' := [some (.ref a), some (.int p0), some (.int p1), some (.int p2), some (.int p3), some (.ref q2)]) (st' := [.int (1 <<< (v12 &&& 31)), .ref q2, .ref q8]) (fun _ => rfl) ?_
                obtain ⟨S13, hS13, h⟩ := obind h
                refine pE_iv (Bs := [.ref q2, .int (1 <<< (v12 &&& 31))]) (st := []) 1 rfl (Or.inl ⟨rfl, rfl⟩) rfl rfl (Nat.le_of_ble_eq_true rfl) (Nat.le_of_ble_eq_true rfl) (g_Bench_fill hS13) (f_Bench_fill sp (d + 1) N S11 q8 q2 (1 <<< (v12 &&& 31)) _ hS13) ?_
                refine pE_jump 1 (pc' := 63) (ls' := [some (.ref a), some (.int p0), some (.int p1), some (.int p2), some (.int p3), some (.ref q2)]) (st' := [.ref a]) (fun _ => rfl) ?_
                obtain ⟨oq14, hq14, h⟩ := obind h
                cases oq14 with
                | none => cases h
                | some q14 =>
                  try dsimp only at h
                  refine pE_gfS rfl rfl hq14 ?_
                  refine pE_jump 3 (pc' := 70) (ls' := [some (.ref a), some (.int p0), some (.int p1), some (.int p2), some (.int p3), some (.ref q2)]) (st' := [.int p2, .int p1, .ref q2, .ref q14]) (fun _ => rfl) ?_
                  obtain ⟨S15, hS15, h⟩ := obind h
                  refine pE_iv (Bs := [.ref q2, .int p1, .int p2]) (st := []) 1 rfl (Or.inl ⟨rfl, rfl⟩) rfl rfl (Nat.le_of_ble_eq_true rfl) (Nat.le_of_ble_eq_true rfl) (g_Bench_partFits hS15) (f_Bench_partFits sp (d + 4) N S13 q14 q2 p1 p2 _ hS15) ?_
                  refine pE_jump 1 (pc' := 75) (ls' := [some (.ref a), some (.int p0), some (.int p1), some (.int p2), some (.int p3), some (.ref q2)]) (st' := [.int p3]) (fun _ => rfl) ?_
                  refine pE_br (¬ p3 = 0) rfl rfl (fun c20 => ?_) (fun c20 => ?_)
                  · rw [if_neg c20] at h
                    refine pE_jump 1 (pc' := 89) (ls' := [some (.ref a), some (.int p0), some (.int p1), some (.int p2), some (.int p3), some (.ref q2)]) (st' := [.ref a]) (fun _ => rfl) ?_
                    obtain ⟨oq18, hq18, h⟩ := obind h
                    cases oq18 with
                    | none => cases h
                    | some q18 =>
                      try dsimp only at h
                      refine pE_gfS rfl rfl hq18 ?_
                      obtain ⟨v19, hv19, h⟩ := obind h
                      refine pE_gfI rfl rfl hv19 ?_
                      refine pE_weak [none, none, none, none, none, none] trivial ?_
                      exact f_BP_parts_95 sp d N v19 S15 _ h
                  · have c20 := Decidable.not_not.mp c20
                    rw [if_pos c20] at h
                    refine pE_jump 1 (pc' := 79) (ls' := [some (.ref a), some (.int p0), some (.int p1), some (.int p2), some (.int p3), some (.ref q2)]) (st' := [.ref a]) (fun _ => rfl) ?_
                    obtain ⟨oq16, hq16, h⟩ := obind h
                    cases oq16 with
                    | none => cases h
                    | some q16 =>
                      try dsimp only at h
                      refine pE_gfS rfl rfl hq16 ?_
                      obtain ⟨v17, hv17, h⟩ := obind h
                      refine pE_gfI rfl rfl hv17 ?_
                      refine pE_jump 1 (pc' := 95) (ls' := [some (.ref a), some (.int p0), some (.int p1), some (.int p2), some (.int p3), some (.ref q2)]) (st' := [.int v17]) (fun _ => rfl) ?_
                      refine pE_weak [none, none, none, none, none, none] trivial ?_
                      exact f_BP_parts_95 sp d N v17 S15 _ h
          · rw [if_neg c21] at h
            refine pE_weak [none, none, none, none, none, none] trivial ?_
            exact f_BP_parts_35 sp d N S4 _ h
