def F_Wires_jointPairs (N : Nat) (S : pm_S) (a : Nat) (p0 : Int32) : Option (Int32 × pm_S) :=
    if rcv S a 9 = true then
    ((oR S a 9 10).bind fun oq1 => match oq1 with
    | none => none
    | some q1 =>
    (oR S q1 1 0).bind fun oq2 => match oq2 with
    | none => none
    | some q2 =>
    (F_Wires_pairsWith N S a q2 p0).bind fun (v4, S3) =>
    some (v4, S3))
    else none
theorem g_Wires_jointPairs {N : Nat} {S : pm_S} {a : Nat} {p0 : Int32} {r : (Int32 × pm_S)} (h : F_Wires_jointPairs N S a p0 = some r) : rcv S a 9 = true := by
  unfold F_Wires_jointPairs at h
  by_cases c : rcv S a 9 = true
  · exact c
  · rw [if_neg c] at h; cases h
set_option maxHeartbeats 4000000 in
set_option maxRecDepth 20000 in
theorem f_Wires_jointPairs (sp : pm_I → List Value → pm_S → pm_O → Prop) (d N : Nat) (S : pm_S) (a : Nat) (p0 : Int32) (r : (Int32 × pm_S)) (h : F_Wires_jointPairs N S a p0 = some r) : pm_rel pG sp (d + 4) mi_Wires_jointPairs [.ref a, .int p0] S (some (.int r.1), r.2) := by
  have hg := g_Wires_jointPairs h
  unfold F_Wires_jointPairs at h
  rw [if_pos hg] at h
  refine pE_rel (d := d + 3) ?_
  show pmE pG _ mi_Wires_jointPairs 0 [some (.ref a), some (.int p0)] [] S _
  refine pE_jump 2 (pc' := 2) (ls' := [some (.ref a), some (.int p0)]) (st' := [.ref a, .ref a]) (fun _ => rfl) ?_
  obtain ⟨oq1, hq1, h⟩ := obind h
  cases oq1 with
  | none => cases h
  | some q1 =>
    try dsimp only at h
    refine pE_gfS rfl rfl hq1 ?_
    obtain ⟨oq2, hq2, h⟩ := obind h
    cases oq2 with
    | none => cases h
    | some q2 =>
      try dsimp only at h
      refine pE_gfS rfl rfl hq2 ?_
      refine pE_jump 1 (pc' := 9) (ls' := [some (.ref a), some (.int p0)]) (st' := [.int p0, .ref q2, .ref a]) (fun _ => rfl) ?_
      obtain ⟨⟨v4, S3⟩, hv4, h⟩ := obind h
      try dsimp only at h
      refine pE_iv (Bs := [.ref q2, .int p0]) (st := []) 1 rfl (Or.inl ⟨rfl, rfl⟩) rfl rfl (Nat.le_of_ble_eq_true rfl) (Nat.le_of_ble_eq_true rfl) (g_Wires_pairsWith hv4) (f_Wires_pairsWith sp d N S a q2 p0 _ hv4) ?_
      cases h
      exact pE_ret rfl rfl rfl
def F_Bench_openPairs_46 (N : Nat)  (x0 : Nat) (x1 : Int32) (x2 : Int32) (S : pm_S) : Option (Int32 × pm_S) :=
    (oR S x0 0 0).bind fun oq5 => match oq5 with
    | none => none
    | some q5 =>
    (F_Wires_jointPairs N S q5 x1).bind fun (v7, S6) =>
    some (x2 &&& (v7 ^^^ (-1)), S6)
set_option maxHeartbeats 4000000 in
set_option maxRecDepth 20000 in
theorem f_Bench_openPairs_46 (sp : pm_I → List Value → pm_S → pm_O → Prop) (d N : Nat)  (x0 : Nat) (x1 : Int32) (x2 : Int32) (S : pm_S)  (r : (Int32 × pm_S)) (h : F_Bench_openPairs_46 N  x0 x1 x2 S = some r) : pmE pG (pm_rel pG sp (d + 5)) mi_Bench_openPairs 46 [some (.ref x0), some (.int x1), some (.int x2), none] [] S (some (.int r.1), r.2) := by
  unfold F_Bench_openPairs_46 at h
  refine pE_jump 2 (pc' := 48) (ls' := [some (.ref x0), some (.int x1), some (.int x2), none]) (st' := [.ref x0, .int x2]) (fun _ => rfl) ?_
  obtain ⟨oq5, hq5, h⟩ := obind h
  cases oq5 with
  | none => cases h
  | some q5 =>
    try dsimp only at h
    refine pE_gfS rfl rfl hq5 ?_
    refine pE_jump 1 (pc' := 52) (ls' := [some (.ref x0), some (.int x1), some (.int x2), none]) (st' := [.int x1, .ref q5, .int x2]) (fun _ => rfl) ?_
    obtain ⟨⟨v7, S6⟩, hv7, h⟩ := obind h
    try dsimp only at h
    refine pE_iv (Bs := [.int x1]) (st := [.int x2]) 1 rfl (Or.inl ⟨rfl, rfl⟩) rfl rfl (Nat.le_of_ble_eq_true rfl) (Nat.le_of_ble_eq_true rfl) (g_Wires_jointPairs hv7) (f_Wires_jointPairs sp (d + 1) N S q5 x1 _ hv7) ?_
    refine pE_jump 3 (pc' := 58) (ls' := [some (.ref x0), some (.int x1), some (.int x2), none]) (st' := [.int (x2 &&& (v7 ^^^ (-1)))]) (fun _ => rfl) ?_
    cases h
    exact pE_ret rfl rfl rfl
def F_Bench_openPairs_40 (N : Nat) (rec4 : Int32 → Int32 → pm_S → Option (Int32 × pm_S)) (x0 : Nat) (x1 : Int32) (x2 : Int32) (x3 : Int32) (S : pm_S) : Option (Int32 × pm_S) :=
    rec4 x2 (x3 + 1) S
set_option maxHeartbeats 4000000 in
set_option maxRecDepth 20000 in
theorem f_Bench_openPairs_40 (sp : pm_I → List Value → pm_S → pm_O → Prop) (d N : Nat) (rec4 : Int32 → Int32 → pm_S → Option (Int32 × pm_S)) (x0 : Nat) (x1 : Int32) (x2 : Int32) (x3 : Int32) (S : pm_S) (hrec4 : ∀ (y1 : Int32) (y2 : Int32) (U : pm_S) (r : (Int32 × pm_S)), rec4 y1 y2 U = some r → pmE pG (pm_rel pG sp (d + 5)) mi_Bench_openPairs 4 [some (.ref x0), some (.int x1), some (.int y1), some (.int y2)] [] U (some (.int r.1), r.2)) (r : (Int32 × pm_S)) (h : F_Bench_openPairs_40 N rec4 x0 x1 x2 x3 S = some r) : pmE pG (pm_rel pG sp (d + 5)) mi_Bench_openPairs 40 [some (.ref x0), some (.int x1), some (.int x2), some (.int x3)] [] S (some (.int r.1), r.2) := by
  unfold F_Bench_openPairs_40 at h
  refine pE_jump 2 (pc' := 4) (ls' := [some (.ref x0), some (.int x1), some (.int x2), some (.int (x3 + 1))]) (st' := []) (fun _ => rfl) ?_
  exact hrec4 x2 (x3 + 1) S _ h
def B_Bench_openPairs_4 (N : Nat)  (rec4 : Int32 → Int32 → pm_S → Option (Int32 × pm_S)) (x0 : Nat) (x1 : Int32) (x2 : Int32) (x3 : Int32) (S : pm_S) : Option (Int32 × pm_S) :=
    (oR S x0 0 0).bind fun oq1 => match oq1 with
    | none => none
    | some q1 =>
    (oR S q1 9 9).bind fun oq2 => match oq2 with
    | none => none
    | some q2 =>
    (F_Plan_pairsOf N S q2 x1).bind fun (v4, S3) =>
    if v4 ≤ x3 then
    F_Bench_openPairs_46 N x0 x1 x2 S3
    else
    ((F_BP_siteOf N S3 x1 x3).bind fun (v9, S8) =>
    (F_Bench_feedersOf N S8 x0 v9 0).bind fun (v11, S10) =>
    if (lg_cmp v11 0) = 0 then
    F_Bench_openPairs_40 N rec4 x0 x1 x2 x3 S10
    else
    F_Bench_openPairs_40 N rec4 x0 x1 (x2 ||| (1 <<< (x3 &&& 31))) x3 S10)
def F_Bench_openPairs_4 (N : Nat)  (x0 : Nat) (x1 : Int32) : Nat → Int32 → Int32 → pm_S → Option (Int32 × pm_S)
  | 0 => fun _ _ _ => none
  | n + 1 => fun x2 x3 S => B_Bench_openPairs_4 N  (F_Bench_openPairs_4 N  x0 x1 n) x0 x1 x2 x3 S
set_option maxHeartbeats 4000000 in
set_option maxRecDepth 20000 in
theorem f_Bench_openPairs_4 (sp : pm_I → List Value → pm_S → pm_O → Prop) (d N : Nat)  (x0 : Nat) (x1 : Int32)  : ∀ (n : Nat) (x2 : Int32) (x3 : Int32) (S : pm_S) (r : (Int32 × pm_S)), F_Bench_openPairs_4 N  x0 x1 n x2 x3 S = some r → pmE pG (pm_rel pG sp (d + 5)) mi_Bench_openPairs 4 [some (.ref x0), some (.int x1), some (.int x2), some (.int x3)] [] S (some (.int r.1), r.2) := by
  intro n
  induction n with
  | zero =>
    intro x2 x3 S r h
    cases h
  | succ n ih =>
    intro x2 x3 S r h
    replace h : B_Bench_openPairs_4 N  (F_Bench_openPairs_4 N  x0 x1 n) x0 x1 x2 x3 S = some r := h
    have hrec4 := ih
    generalize F_Bench_openPairs_4 N  x0 x1 n = rec4 at h hrec4
    unfold B_Bench_openPairs_4 at h
    refine pE_jump 2 (pc' := 6) (ls' := [some (.ref x0), some (.int x1), some (.int x2), some (.int x3)]) (st' := [.ref x0, .int x3]) (fun _ => rfl) ?_
    obtain ⟨oq1, hq1, h⟩ := obind h
    cases oq1 with
    | none => cases h
    | some q1 =>
      try dsimp only at h
      refine pE_gfS rfl rfl hq1 ?_
      obtain ⟨oq2, hq2, h⟩ := obind h
      cases oq2 with
      | none => cases h
      | some q2 =>
        try dsimp only at h
        refine pE_gfS rfl rfl hq2 ?_
        refine pE_jump 1 (pc' := 13) (ls' := [some (.ref x0), some (.int x1), some (.int x2), some (.int x3)]) (st' := [.int x1, .ref q2, .int x3]) (fun _ => rfl) ?_
        obtain ⟨⟨v4, S3⟩, hv4, h⟩ := obind h
        try dsimp only at h
        refine pE_iv (Bs := [.int x1]) (st := [.int x3]) 1 rfl (Or.inl ⟨rfl, rfl⟩) rfl rfl (Nat.le_of_ble_eq_true rfl) (Nat.le_of_ble_eq_true rfl) (g_Plan_pairsOf hv4) (f_Plan_pairsOf sp (d + 3) N S q2 x1 _ hv4) ?_
        refine pE_br (v4 ≤ x3) rfl rfl (fun c13 => ?_) (fun c13 => ?_)
        · rw [if_pos c13] at h
          refine pE_weak [some (.ref x0), some (.int x1), some (.int x2), none] ⟨rfl, ⟨rfl, ⟨rfl, trivial⟩⟩⟩ ?_
          exact f_Bench_openPairs_46 sp d N x0 x1 x2 S3 _ h
        · rw [if_neg c13] at h
          refine pE_jump 3 (pc' := 22) (ls' := [some (.ref x0), some (.int x1), some (.int x2), some (.int x3)]) (st' := [.int x3, .int x1, .ref x0]) (fun _ => rfl) ?_
          obtain ⟨⟨v9, S8⟩, hv9, h⟩ := obind h
          try dsimp only at h
          refine pE_is (Bs := [.int x1, .int x3]) (st := [.ref x0]) rfl rfl rfl (Nat.le_of_ble_eq_true rfl) (Nat.le_of_ble_eq_true rfl) (f_BP_siteOf sp (d + 4) N S3 x1 x3 _ hv9) ?_
          refine pE_jump 1 (pc' := 26) (ls' := [some (.ref x0), some (.int x1), some (.int x2), some (.int x3)]) (st' := [.int 0, .int v9, .ref x0]) (fun _ => rfl) ?_
          obtain ⟨⟨v11, S10⟩, hv11, h⟩ := obind h
          try dsimp only at h
          refine pE_iv (Bs := [.int v9, .int 0]) (st := []) 1 rfl (Or.inl ⟨rfl, rfl⟩) rfl rfl (Nat.le_of_ble_eq_true rfl) (Nat.le_of_ble_eq_true rfl) (g_Bench_feedersOf hv11) (f_Bench_feedersOf sp d N S8 x0 v9 0 _ hv11) ?_
          refine pE_jump 2 (pc' := 31) (ls' := [some (.ref x0), some (.int x1), some (.int x2), some (.int x3)]) (st' := [.int (lg_cmp v11 0)]) (fun _ => rfl) ?_
          refine pE_br ((lg_cmp v11 0) = 0) rfl rfl (fun c12 => ?_) (fun c12 => ?_)
          · rw [if_pos c12] at h
            exact f_Bench_openPairs_40 sp d N rec4 x0 x1 x2 x3 S10 hrec4 _ h
          · rw [if_neg c12] at h
            refine pE_jump 6 (pc' := 40) (ls' := [some (.ref x0), some (.int x1), some (.int (x2 ||| (1 <<< (x3 &&& 31)))), some (.int x3)]) (st' := []) (fun _ => rfl) ?_
            exact f_Bench_openPairs_40 sp d N rec4 x0 x1 (x2 ||| (1 <<< (x3 &&& 31))) x3 S10 hrec4 _ h
def F_Bench_openPairs (N : Nat) (S : pm_S) (a : Nat) (p0 : Int32) : Option (Int32 × pm_S) :=
    if rcv S a 0 = true then
    (F_Bench_openPairs_4 N a p0 N 0 0 S)
    else none
theorem g_Bench_openPairs {N : Nat} {S : pm_S} {a : Nat} {p0 : Int32} {r : (Int32 × pm_S)} (h : F_Bench_openPairs N S a p0 = some r) : rcv S a 0 = true := by
  unfold F_Bench_openPairs at h
  by_cases c : rcv S a 0 = true
  · exact c
  · rw [if_neg c] at h; cases h
set_option maxHeartbeats 4000000 in
set_option maxRecDepth 20000 in
theorem f_Bench_openPairs (sp : pm_I → List Value → pm_S → pm_O → Prop) (d N : Nat) (S : pm_S) (a : Nat) (p0 : Int32) (r : (Int32 × pm_S)) (h : F_Bench_openPairs N S a p0 = some r) : pm_rel pG sp (d + 6) mi_Bench_openPairs [.ref a, .int p0] S (some (.int r.1), r.2) := by
  have hg := g_Bench_openPairs h
  unfold F_Bench_openPairs at h
  rw [if_pos hg] at h
  refine pE_rel (d := d + 5) ?_
  show pmE pG _ mi_Bench_openPairs 0 [some (.ref a), some (.int p0), none, none] [] S _
  refine pE_jump 4 (pc' := 4) (ls' := [some (.ref a), some (.int p0), some (.int 0), some (.int 0)]) (st' := []) (fun _ => rfl) ?_
  exact f_Bench_openPairs_4 sp d N a p0 N 0 0 S _ h
def F_Wires_hungPairs (N : Nat) (S : pm_S) (a : Nat) (p0 : Int32) : Option (Int32 × pm_S) :=
    if rcv S a 9 = true then
    ((oR S a 9 10).bind fun oq1 => match oq1 with
    | none => none
    | some q1 =>
    (oR S q1 1 2).bind fun oq2 => match oq2 with
    | none => none
    | some q2 =>
    (F_Wires_pairsWith N S a q2 p0).bind fun (v4, S3) =>
    some (v4, S3))
    else none
theorem g_Wires_hungPairs {N : Nat} {S : pm_S} {a : Nat} {p0 : Int32} {r : (Int32 × pm_S)} (h : F_Wires_hungPairs N S a p0 = some r) : rcv S a 9 = true := by
  unfold F_Wires_hungPairs at h
  by_cases c : rcv S a 9 = true
  · exact c
  · rw [if_neg c] at h; cases h
set_option maxHeartbeats 4000000 in
set_option maxRecDepth 20000 in
theorem f_Wires_hungPairs (sp : pm_I → List Value → pm_S → pm_O → Prop) (d N : Nat) (S : pm_S) (a : Nat) (p0 : Int32) (r : (Int32 × pm_S)) (h : F_Wires_hungPairs N S a p0 = some r) : pm_rel pG sp (d + 4) mi_Wires_hungPairs [.ref a, .int p0] S (some (.int r.1), r.2) := by
  have hg := g_Wires_hungPairs h
  unfold F_Wires_hungPairs at h
  rw [if_pos hg] at h
  refine pE_rel (d := d + 3) ?_
  show pmE pG _ mi_Wires_hungPairs 0 [some (.ref a), some (.int p0)] [] S _
  refine pE_jump 2 (pc' := 2) (ls' := [some (.ref a), some (.int p0)]) (st' := [.ref a, .ref a]) (fun _ => rfl) ?_
  obtain ⟨oq1, hq1, h⟩ := obind h
  cases oq1 with
  | none => cases h
  | some q1 =>
    try dsimp only at h
    refine pE_gfS rfl rfl hq1 ?_
    obtain ⟨oq2, hq2, h⟩ := obind h
    cases oq2 with
    | none => cases h
    | some q2 =>
      try dsimp only at h
      refine pE_gfS rfl rfl hq2 ?_
      refine pE_jump 1 (pc' := 9) (ls' := [some (.ref a), some (.int p0)]) (st' := [.int p0, .ref q2, .ref a]) (fun _ => rfl) ?_
      obtain ⟨⟨v4, S3⟩, hv4, h⟩ := obind h
      try dsimp only at h
      refine pE_iv (Bs := [.ref q2, .int p0]) (st := []) 1 rfl (Or.inl ⟨rfl, rfl⟩) rfl rfl (Nat.le_of_ble_eq_true rfl) (Nat.le_of_ble_eq_true rfl) (g_Wires_pairsWith hv4) (f_Wires_pairsWith sp d N S a q2 p0 _ hv4) ?_
      cases h
      exact pE_ret rfl rfl rfl
def F_BP_spare_23 (N : Nat)   (S : pm_S) : Option (Int32 × pm_S) :=
    some ((-1), S)
set_option maxHeartbeats 4000000 in
set_option maxRecDepth 20000 in
theorem f_BP_spare_23 (sp : pm_I → List Value → pm_S → pm_O → Prop) (d N : Nat)   (S : pm_S)  (r : (Int32 × pm_S)) (h : F_BP_spare_23 N   S = some r) : pmE pG (pm_rel pG sp (d + 6)) mi_BP_spare 23 [none, none, none, none, none] [] S (some (.int r.1), r.2) := by
  unfold F_BP_spare_23 at h
  refine pE_jump 1 (pc' := 24) (ls' := [none, none, none, none, none]) (st' := [.int (-1)]) (fun _ => rfl) ?_
  cases h
  exact pE_ret rfl rfl rfl
def F_BP_spare (N : Nat) (S : pm_S) (a : Nat) (p0 : Int32) (p1 : Int32) (p2 : Int32) : Option (Int32 × pm_S) :=
    if rcv S a 10 = true then
    ((F_BP_planWith N S a p0 p1).bind fun (oq2, S1) => match oq2 with
    | none => F_BP_spare_23 N S1
    | some q2 =>
    (F_Plan_cableTo N S1 q2 p2).bind fun (v4, S3) =>
    if v4 = (-1) then
    F_BP_spare_23 N S3
    else
    ((oR S3 a 10 3).bind fun oq5 => match oq5 with
    | none => none
    | some q5 =>
    (oR S3 q5 0 0).bind fun oq6 => match oq6 with
    | none => none
    | some q6 =>
    (F_Wires_lay N S3 q6 q2 p1).bind fun S7 =>
    (oR S7 a 10 3).bind fun oq8 => match oq8 with
    | none => none
    | some q8 =>
    (F_Plan_cableTo N S7 q2 p2).bind fun (v12, S11) =>
    (F_Bench_openPairs N S11 q8 v12).bind fun (v14, S13) =>
    (oR S13 a 10 3).bind fun oq15 => match oq15 with
    | none => none
    | some q15 =>
    (oR S13 q15 0 0).bind fun oq16 => match oq16 with
    | none => none
    | some q16 =>
    (F_Plan_cableTo N S13 q2 p2).bind fun (v20, S19) =>
    (F_Wires_hungPairs N S19 q16 v20).bind fun (v22, S21) =>
    some (v14 &&& (v22 ^^^ (-1)), S21)))
    else none
theorem g_BP_spare {N : Nat} {S : pm_S} {a : Nat} {p0 : Int32} {p1 : Int32} {p2 : Int32} {r : (Int32 × pm_S)} (h : F_BP_spare N S a p0 p1 p2 = some r) : rcv S a 10 = true := by
  unfold F_BP_spare at h
  by_cases c : rcv S a 10 = true
  · exact c
  · rw [if_neg c] at h; cases h
set_option maxHeartbeats 4000000 in
set_option maxRecDepth 20000 in
theorem f_BP_spare (sp : pm_I → List Value → pm_S → pm_O → Prop) (d N : Nat) (S : pm_S) (a : Nat) (p0 : Int32) (p1 : Int32) (p2 : Int32) (r : (Int32 × pm_S)) (h : F_BP_spare N S a p0 p1 p2 = some r) : pm_rel pG sp (d + 7) mi_BP_spare [.ref a, .int p0, .int p1, .int p2] S (some (.int r.1), r.2) := by
  have hg := g_BP_spare h
  unfold F_BP_spare at h
  rw [if_pos hg] at h
  refine pE_rel (d := d + 6) ?_
  show pmE pG _ mi_BP_spare 0 [some (.ref a), some (.int p0), some (.int p1), some (.int p2), none] [] S _
  refine pE_jump 3 (pc' := 3) (ls' := [some (.ref a), some (.int p0), some (.int p1), some (.int p2), none]) (st' := [.int p1, .int p0, .ref a]) (fun _ => rfl) ?_
  obtain ⟨⟨oq2, S1⟩, hq2, h⟩ := obind h
  try dsimp only at h
  cases oq2 with
  | none =>
    try dsimp only at h
    refine pE_iv (Bs := [.int p0, .int p1]) (st := []) 1 rfl (Or.inl ⟨rfl, rfl⟩) rfl rfl (Nat.le_of_ble_eq_true rfl) (Nat.le_of_ble_eq_true rfl) (g_BP_planWith hq2) (f_BP_planWith sp (d + 2) N S a p0 p1 _ hq2) ?_
    refine pE_jump 3 (pc' := 23) (ls' := [some (.ref a), some (.int p0), some (.int p1), some (.int p2), some (.null)]) (st' := []) (fun _ => rfl) ?_
    refine pE_weak [none, none, none, none, none] trivial ?_
    exact f_BP_spare_23 sp d N S1 _ h
  | some q2 =>
    try dsimp only at h
    refine pE_iv (Bs := [.int p0, .int p1]) (st := []) 1 rfl (Or.inl ⟨rfl, rfl⟩) rfl rfl (Nat.le_of_ble_eq_true rfl) (Nat.le_of_ble_eq_true rfl) (g_BP_planWith hq2) (f_BP_planWith sp (d + 2) N S a p0 p1 _ hq2) ?_
    refine pE_jump 5 (pc' := 16) (ls' := [some (.ref a), some (.int p0), some (.int p1), some (.int p2), some (.ref q2)]) (st' := [.int p2, .ref q2]) (fun _ => rfl) ?_
    obtain ⟨⟨v4, S3⟩, hv4, h⟩ := obind h
    try dsimp only at h
    refine pE_iv (Bs := [.int p2]) (st := []) 1 rfl (Or.inl ⟨rfl, rfl⟩) rfl rfl (Nat.le_of_ble_eq_true rfl) (Nat.le_of_ble_eq_true rfl) (g_Plan_cableTo hv4) (f_Plan_cableTo sp (d + 4) N S1 q2 p2 _ hv4) ?_
    refine pE_jump 1 (pc' := 20) (ls' := [some (.ref a), some (.int p0), some (.int p1), some (.int p2), some (.ref q2)]) (st' := [.int (-1), .int v4]) (fun _ => rfl) ?_
    refine pE_br (¬ v4 = (-1)) rfl rfl (fun c23 => ?_) (fun c23 => ?_)
    · rw [if_neg c23] at h
      refine pE_jump 1 (pc' := 26) (ls' := [some (.ref a), some (.int p0), some (.int p1), some (.int p2), some (.ref q2)]) (st' := [.ref a]) (fun _ => rfl) ?_
      obtain ⟨oq5, hq5, h⟩ := obind h
      cases oq5 with
      | none => cases h
      | some q5 =>
        try dsimp only at h
        refine pE_gfS rfl rfl hq5 ?_
        obtain ⟨oq6, hq6, h⟩ := obind h
        cases oq6 with
        | none => cases h
        | some q6 =>
          try dsimp only at h
          refine pE_gfS rfl rfl hq6 ?_
          refine pE_jump 2 (pc' := 35) (ls' := [some (.ref a), some (.int p0), some (.int p1), some (.int p2), some (.ref q2)]) (st' := [.int p1, .ref q2, .ref q6]) (fun _ => rfl) ?_
          obtain ⟨S7, hS7, h⟩ := obind h
          refine pE_iv (Bs := [.ref q2, .int p1]) (st := []) 1 rfl (Or.inl ⟨rfl, rfl⟩) rfl rfl (Nat.le_of_ble_eq_true rfl) (Nat.le_of_ble_eq_true rfl) (g_Wires_lay hS7) (f_Wires_lay sp (d + 1) N S3 q6 q2 p1 _ hS7) ?_
          refine pE_jump 1 (pc' := 39) (ls' := [some (.ref a), some (.int p0), some (.int p1), some (.int p2), some (.ref q2)]) (st' := [.ref a]) (fun _ => rfl) ?_
          obtain ⟨oq8, hq8, h⟩ := obind h
          cases oq8 with
          | none => cases h
          | some q8 =>
            try dsimp only at h
            refine pE_gfS rfl rfl hq8 ?_
            refine pE_jump 2 (pc' := 45) (ls' := [some (.ref a), some (.int p0), some (.int p1), some (.int p2), some (.ref q2)]) (st' := [.int p2, .ref q2, .ref q8]) (fun _ => rfl) ?_
            obtain ⟨⟨v12, S11⟩, hv12, h⟩ := obind h
            try dsimp only at h
            refine pE_iv (Bs := [.int p2]) (st := [.ref q8]) 1 rfl (Or.inl ⟨rfl, rfl⟩) rfl rfl (Nat.le_of_ble_eq_true rfl) (Nat.le_of_ble_eq_true rfl) (g_Plan_cableTo hv12) (f_Plan_cableTo sp (d + 4) N S7 q2 p2 _ hv12) ?_
            obtain ⟨⟨v14, S13⟩, hv14, h⟩ := obind h
            try dsimp only at h
            refine pE_iv (Bs := [.int v12]) (st := []) 1 rfl (Or.inl ⟨rfl, rfl⟩) rfl rfl (Nat.le_of_ble_eq_true rfl) (Nat.le_of_ble_eq_true rfl) (g_Bench_openPairs hv14) (f_Bench_openPairs sp d N S11 q8 v12 _ hv14) ?_
            refine pE_jump 1 (pc' := 52) (ls' := [some (.ref a), some (.int p0), some (.int p1), some (.int p2), some (.ref q2)]) (st' := [.ref a, .int v14]) (fun _ => rfl) ?_
            obtain ⟨oq15, hq15, h⟩ := obind h
            cases oq15 with
            | none => cases h
            | some q15 =>
              try dsimp only at h
              refine pE_gfS rfl rfl hq15 ?_
              obtain ⟨oq16, hq16, h⟩ := obind h
              cases oq16 with
              | none => cases h
              | some q16 =>
                try dsimp only at h
                refine pE_gfS rfl rfl hq16 ?_
                refine pE_jump 2 (pc' := 61) (ls' := [some (.ref a), some (.int p0), some (.int p1), some (.int p2), some (.ref q2)]) (st' := [.int p2, .ref q2, .ref q16, .int v14]) (fun _ => rfl) ?_
                obtain ⟨⟨v20, S19⟩, hv20, h⟩ := obind h
                try dsimp only at h
                refine pE_iv (Bs := [.int p2]) (st := [.ref q16, .int v14]) 1 rfl (Or.inl ⟨rfl, rfl⟩) rfl rfl (Nat.le_of_ble_eq_true rfl) (Nat.le_of_ble_eq_true rfl) (g_Plan_cableTo hv20) (f_Plan_cableTo sp (d + 4) N S13 q2 p2 _ hv20) ?_
                obtain ⟨⟨v22, S21⟩, hv22, h⟩ := obind h
                try dsimp only at h
                refine pE_iv (Bs := [.int v20]) (st := [.int v14]) 1 rfl (Or.inl ⟨rfl, rfl⟩) rfl rfl (Nat.le_of_ble_eq_true rfl) (Nat.le_of_ble_eq_true rfl) (g_Wires_hungPairs hv22) (f_Wires_hungPairs sp (d + 2) N S19 q16 v20 _ hv22) ?_
                refine pE_jump 3 (pc' := 70) (ls' := [some (.ref a), some (.int p0), some (.int p1), some (.int p2), some (.ref q2)]) (st' := [.int (v14 &&& (v22 ^^^ (-1)))]) (fun _ => rfl) ?_
                cases h
                exact pE_ret rfl rfl rfl
    · have c23 := Decidable.not_not.mp c23
      rw [if_pos c23] at h
      refine pE_weak [none, none, none, none, none] trivial ?_
      exact f_BP_spare_23 sp d N S3 _ h
def F_BP_test_31 (N : Nat)   (S : pm_S) : Option (Int32 × pm_S) :=
    some ((-1), S)
set_option maxHeartbeats 4000000 in
set_option maxRecDepth 20000 in
theorem f_BP_test_31 (sp : pm_I → List Value → pm_S → pm_O → Prop) (d N : Nat)   (S : pm_S)  (r : (Int32 × pm_S)) (h : F_BP_test_31 N   S = some r) : pmE pG (pm_rel pG sp (d + 3)) mi_BP_test 31 [none, none, none, none, none, none, none, none, none, none] [] S (some (.int r.1), r.2) := by
  unfold F_BP_test_31 at h
  refine pE_jump 1 (pc' := 32) (ls' := [none, none, none, none, none, none, none, none, none, none]) (st' := [.int (-1)]) (fun _ => rfl) ?_
  cases h
  exact pE_ret rfl rfl rfl
def F_BP_test_111_2 (N : Nat)  (t0 : Int32) (t1 : Int32) (t2 : Int32) (t3 : Int32) (t4 : Int32) (t5 : Nat) (S : pm_S) : Option (Int32 × pm_S) :=
    (F_Ledger_add N S t5 t4 t3 t2 t1 t0).bind fun (v15, S14) =>
    some (v15, S14)
set_option maxHeartbeats 4000000 in
set_option maxRecDepth 20000 in
theorem f_BP_test_111_2 (sp : pm_I → List Value → pm_S → pm_O → Prop) (d N : Nat)  (t0 : Int32) (t1 : Int32) (t2 : Int32) (t3 : Int32) (t4 : Int32) (t5 : Nat) (S : pm_S)  (r : (Int32 × pm_S)) (h : F_BP_test_111_2 N  t0 t1 t2 t3 t4 t5 S = some r) : pmE pG (pm_rel pG sp (d + 3)) mi_BP_test 111 [none, none, none, none, none, none, none, none, none, none] [.int t0, .int t1, .int t2, .int t3, .int t4, .ref t5] S (some (.int r.1), r.2) := by
  unfold F_BP_test_111_2 at h
  obtain ⟨⟨v15, S14⟩, hv15, h⟩ := obind h
  try dsimp only at h
  refine pE_iv (Bs := [.int t4, .int t3, .int t2, .int t1, .int t0]) (st := []) 1 rfl (Or.inl ⟨rfl, rfl⟩) rfl rfl (Nat.le_of_ble_eq_true rfl) (Nat.le_of_ble_eq_true rfl) (g_Ledger_add hv15) (f_Ledger_add sp (d + 1) N S t5 t4 t3 t2 t1 t0 _ hv15) ?_
  cases h
  exact pE_ret rfl rfl rfl
def F_BP_test_99_2 (N : Nat)  (x5 : Int32) (x7 : Int32) (x9 : Int32) (t0 : Int32) (t1 : Int32) (t2 : Int32) (t3 : Int32) (t4 : Nat) (S : pm_S) : Option (Int32 × pm_S) :=
    if x9 = 0 then
    F_BP_test_111_2 N x5 t0 t1 t2 t3 t4 S
    else
    F_BP_test_111_2 N x7 t0 t1 t2 t3 t4 S
set_option maxHeartbeats 4000000 in
set_option maxRecDepth 20000 in
theorem f_BP_test_99_2 (sp : pm_I → List Value → pm_S → pm_O → Prop) (d N : Nat)  (x5 : Int32) (x7 : Int32) (x9 : Int32) (t0 : Int32) (t1 : Int32) (t2 : Int32) (t3 : Int32) (t4 : Nat) (S : pm_S)  (r : (Int32 × pm_S)) (h : F_BP_test_99_2 N  x5 x7 x9 t0 t1 t2 t3 t4 S = some r) : pmE pG (pm_rel pG sp (d + 3)) mi_BP_test 99 [none, none, none, none, none, some (.int x5), none, some (.int x7), none, some (.int x9)] [.int t0, .int t1, .int t2, .int t3, .ref t4] S (some (.int r.1), r.2) := by
  unfold F_BP_test_99_2 at h
  refine pE_jump 1 (pc' := 101) (ls' := [none, none, none, none, none, some (.int x5), none, some (.int x7), none, some (.int x9)]) (st' := [.int x9, .int t0, .int t1, .int t2, .int t3, .ref t4]) (fun _ => rfl) ?_
  refine pE_br (x9 = 0) rfl rfl (fun c16 => ?_) (fun c16 => ?_)
  · rw [if_pos c16] at h
    refine pE_jump 1 (pc' := 111) (ls' := [none, none, none, none, none, some (.int x5), none, some (.int x7), none, some (.int x9)]) (st' := [.int x5, .int t0, .int t1, .int t2, .int t3, .ref t4]) (fun _ => rfl) ?_
    refine pE_weak [none, none, none, none, none, none, none, none, none, none] trivial ?_
    exact f_BP_test_111_2 sp d N x5 t0 t1 t2 t3 t4 S _ h
  · rw [if_neg c16] at h
    refine pE_jump 2 (pc' := 111) (ls' := [none, none, none, none, none, some (.int x5), none, some (.int x7), none, some (.int x9)]) (st' := [.int x7, .int t0, .int t1, .int t2, .int t3, .ref t4]) (fun _ => rfl) ?_
    refine pE_weak [none, none, none, none, none, none, none, none, none, none] trivial ?_
    exact f_BP_test_111_2 sp d N x7 t0 t1 t2 t3 t4 S _ h
def F_BP_test_74 (N : Nat)  (x2 : Int32) (x3 : Int32) (x4 : Int32) (x5 : Int32) (x6 : Int32) (x7 : Int32) (x8 : Nat) (x9 : Int32) (S : pm_S) : Option (Int32 × pm_S) :=
    (oR S x8 4 8).bind fun oq9 => match oq9 with
    | none => none
    | some q9 =>
    (F_BP_siteOf N S x3 x4).bind fun (v13, S12) =>
    if x9 = 0 then
    F_BP_test_99_2 N x5 x7 x9 x3 x5 v13 x2 q9 S12
    else
    F_BP_test_99_2 N x5 x7 x9 x6 x5 v13 x2 q9 S12
set_option maxHeartbeats 4000000 in
set_option maxRecDepth 20000 in
theorem f_BP_test_74 (sp : pm_I → List Value → pm_S → pm_O → Prop) (d N : Nat)  (x2 : Int32) (x3 : Int32) (x4 : Int32) (x5 : Int32) (x6 : Int32) (x7 : Int32) (x8 : Nat) (x9 : Int32) (S : pm_S)  (r : (Int32 × pm_S)) (h : F_BP_test_74 N  x2 x3 x4 x5 x6 x7 x8 x9 S = some r) : pmE pG (pm_rel pG sp (d + 3)) mi_BP_test 74 [none, none, some (.int x2), some (.int x3), some (.int x4), some (.int x5), some (.int x6), some (.int x7), some (.ref x8), some (.int x9)] [] S (some (.int r.1), r.2) := by
  unfold F_BP_test_74 at h
  refine pE_jump 1 (pc' := 76) (ls' := [none, none, some (.int x2), some (.int x3), some (.int x4), some (.int x5), some (.int x6), some (.int x7), some (.ref x8), some (.int x9)]) (st' := [.ref x8]) (fun _ => rfl) ?_
  obtain ⟨oq9, hq9, h⟩ := obind h
  cases oq9 with
  | none => cases h
  | some q9 =>
    try dsimp only at h
    refine pE_gfS rfl rfl hq9 ?_
    refine pE_jump 3 (pc' := 83) (ls' := [none, none, some (.int x2), some (.int x3), some (.int x4), some (.int x5), some (.int x6), some (.int x7), some (.ref x8), some (.int x9)]) (st' := [.int x4, .int x3, .int x2, .ref q9]) (fun _ => rfl) ?_
    obtain ⟨⟨v13, S12⟩, hv13, h⟩ := obind h
    try dsimp only at h
    refine pE_is (Bs := [.int x3, .int x4]) (st := [.int x2, .ref q9]) rfl rfl rfl (Nat.le_of_ble_eq_true rfl) (Nat.le_of_ble_eq_true rfl) (f_BP_siteOf sp (d + 2) N S x3 x4 _ hv13) ?_
    refine pE_jump 2 (pc' := 90) (ls' := [none, none, some (.int x2), some (.int x3), some (.int x4), some (.int x5), some (.int x6), some (.int x7), some (.ref x8), some (.int x9)]) (st' := [.int x9, .int x5, .int v13, .int x2, .ref q9]) (fun _ => rfl) ?_
    refine pE_br (x9 = 0) rfl rfl (fun c17 => ?_) (fun c17 => ?_)
    · rw [if_pos c17] at h
      refine pE_jump 1 (pc' := 99) (ls' := [none, none, some (.int x2), some (.int x3), some (.int x4), some (.int x5), some (.int x6), some (.int x7), some (.ref x8), some (.int x9)]) (st' := [.int x3, .int x5, .int v13, .int x2, .ref q9]) (fun _ => rfl) ?_
      refine pE_weak [none, none, none, none, none, some (.int x5), none, some (.int x7), none, some (.int x9)] ⟨rfl, ⟨rfl, ⟨rfl, trivial⟩⟩⟩ ?_
      exact f_BP_test_99_2 sp d N x5 x7 x9 x3 x5 v13 x2 q9 S12 _ h
    · rw [if_neg c17] at h
      refine pE_jump 2 (pc' := 99) (ls' := [none, none, some (.int x2), some (.int x3), some (.int x4), some (.int x5), some (.int x6), some (.int x7), some (.ref x8), some (.int x9)]) (st' := [.int x6, .int x5, .int v13, .int x2, .ref q9]) (fun _ => rfl) ?_
      refine pE_weak [none, none, none, none, none, some (.int x5), none, some (.int x7), none, some (.int x9)] ⟨rfl, ⟨rfl, ⟨rfl, trivial⟩⟩⟩ ?_
      exact f_BP_test_99_2 sp d N x5 x7 x9 x6 x5 v13 x2 q9 S12 _ h
def F_BP_test_60 (N : Nat)  (x2 : Int32) (x3 : Int32) (x4 : Int32) (x5 : Int32) (x6 : Int32) (x7 : Int32) (x8 : Nat) (t0 : Int32) (S : pm_S) : Option (Int32 × pm_S) :=
    if t0 = 0 then
    (if x2 = 1 then
    F_BP_test_74 N x2 x3 x4 x5 x6 x7 x8 t0 S
    else
    some ((-1), S))
    else
    F_BP_test_74 N x2 x3 x4 x5 x6 x7 x8 t0 S
set_option maxHeartbeats 4000000 in
set_option maxRecDepth 20000 in
theorem f_BP_test_60 (sp : pm_I → List Value → pm_S → pm_O → Prop) (d N : Nat)  (x2 : Int32) (x3 : Int32) (x4 : Int32) (x5 : Int32) (x6 : Int32) (x7 : Int32) (x8 : Nat) (t0 : Int32) (S : pm_S)  (r : (Int32 × pm_S)) (h : F_BP_test_60 N  x2 x3 x4 x5 x6 x7 x8 t0 S = some r) : pmE pG (pm_rel pG sp (d + 3)) mi_BP_test 60 [none, none, some (.int x2), some (.int x3), some (.int x4), some (.int x5), some (.int x6), some (.int x7), some (.ref x8), none] [.int t0] S (some (.int r.1), r.2) := by
  unfold F_BP_test_60 at h
  refine pE_jump 2 (pc' := 64) (ls' := [none, none, some (.int x2), some (.int x3), some (.int x4), some (.int x5), some (.int x6), some (.int x7), some (.ref x8), some (.int t0)]) (st' := [.int t0]) (fun _ => rfl) ?_
  refine pE_br (¬ t0 = 0) rfl rfl (fun c19 => ?_) (fun c19 => ?_)
  · rw [if_neg c19] at h
    exact f_BP_test_74 sp d N x2 x3 x4 x5 x6 x7 x8 t0 S _ h
  · have c19 := Decidable.not_not.mp c19
    rw [if_pos c19] at h
    refine pE_jump 2 (pc' := 69) (ls' := [none, none, some (.int x2), some (.int x3), some (.int x4), some (.int x5), some (.int x6), some (.int x7), some (.ref x8), some (.int t0)]) (st' := [.int 1, .int x2]) (fun _ => rfl) ?_
    refine pE_br (x2 = 1) rfl rfl (fun c18 => ?_) (fun c18 => ?_)
    · rw [if_pos c18] at h
      exact f_BP_test_74 sp d N x2 x3 x4 x5 x6 x7 x8 t0 S _ h
    · rw [if_neg c18] at h
      refine pE_jump 1 (pc' := 73) (ls' := [none, none, some (.int x2), some (.int x3), some (.int x4), some (.int x5), some (.int x6), some (.int x7), some (.ref x8), some (.int t0)]) (st' := [.int (-1)]) (fun _ => rfl) ?_
      cases h
      exact pE_ret rfl rfl rfl
def F_BP_test_59 (N : Nat)  (x2 : Int32) (x3 : Int32) (x4 : Int32) (x5 : Int32) (x6 : Int32) (x7 : Int32) (x8 : Nat) (S : pm_S) : Option (Int32 × pm_S) :=
    F_BP_test_60 N x2 x3 x4 x5 x6 x7 x8 0 S
set_option maxHeartbeats 4000000 in
set_option maxRecDepth 20000 in
theorem f_BP_test_59 (sp : pm_I → List Value → pm_S → pm_O → Prop) (d N : Nat)  (x2 : Int32) (x3 : Int32) (x4 : Int32) (x5 : Int32) (x6 : Int32) (x7 : Int32) (x8 : Nat) (S : pm_S)  (r : (Int32 × pm_S)) (h : F_BP_test_59 N  x2 x3 x4 x5 x6 x7 x8 S = some r) : pmE pG (pm_rel pG sp (d + 3)) mi_BP_test 59 [none, none, some (.int x2), some (.int x3), some (.int x4), some (.int x5), some (.int x6), some (.int x7), some (.ref x8), none] [] S (some (.int r.1), r.2) := by
  unfold F_BP_test_59 at h
  refine pE_jump 1 (pc' := 60) (ls' := [none, none, some (.int x2), some (.int x3), some (.int x4), some (.int x5), some (.int x6), some (.int x7), some (.ref x8), none]) (st' := [.int 0]) (fun _ => rfl) ?_
  exact f_BP_test_60 sp d N x2 x3 x4 x5 x6 x7 x8 0 S _ h
def F_BP_test (N : Nat) (S : pm_S) (a : Nat) (p0 : Int32) (p1 : Int32) (p2 : Int32) (p3 : Int32) (p4 : Int32) (p5 : Int32) (p6 : Int32) : Option (Int32 × pm_S) :=
    if rcv S a 10 = true then
    ((F_BP_planAt N S a p0).bind fun (oq2, S1) => match oq2 with
    | none => F_BP_test_31 N S1
    | some q2 =>
    (F_Plan_hasPair N S1 q2 p2 p3).bind fun (v4, S3) =>
    if v4 = 0 then
    F_BP_test_31 N S3
    else
    ((F_BP_isEnd N S3 p4).bind fun (v6, S5) =>
    if v6 = 0 then
    F_BP_test_31 N S5
    else
    (if p1 = 0 then
    ((F_Plan_hasCable N S5 q2 p5).bind fun (v8, S7) =>
    if v8 = 0 then
    F_BP_test_59 N p1 p2 p3 p4 p5 p6 q2 S7
    else
    ((F_BP_isEnd N S7 p6).bind fun (v21, S20) =>
    if v21 = 0 then
    F_BP_test_59 N p1 p2 p3 p4 p5 p6 q2 S20
    else
    F_BP_test_60 N p1 p2 p3 p4 p5 p6 q2 1 S20))
    else
    F_BP_test_59 N p1 p2 p3 p4 p5 p6 q2 S5)))
    else none
theorem g_BP_test {N : Nat} {S : pm_S} {a : Nat} {p0 : Int32} {p1 : Int32} {p2 : Int32} {p3 : Int32} {p4 : Int32} {p5 : Int32} {p6 : Int32} {r : (Int32 × pm_S)} (h : F_BP_test N S a p0 p1 p2 p3 p4 p5 p6 = some r) : rcv S a 10 = true := by
  unfold F_BP_test at h
  by_cases c : rcv S a 10 = true
  · exact c
  · rw [if_neg c] at h; cases h
set_option maxHeartbeats 4000000 in
set_option maxRecDepth 20000 in
theorem f_BP_test (sp : pm_I → List Value → pm_S → pm_O → Prop) (d N : Nat) (S : pm_S) (a : Nat) (p0 : Int32) (p1 : Int32) (p2 : Int32) (p3 : Int32) (p4 : Int32) (p5 : Int32) (p6 : Int32) (r : (Int32 × pm_S)) (h : F_BP_test N S a p0 p1 p2 p3 p4 p5 p6 = some r) : pm_rel pG sp (d + 4) mi_BP_test [.ref a, .int p0, .int p1, .int p2, .int p3, .int p4, .int p5, .int p6] S (some (.int r.1), r.2) := by
  have hg := g_BP_test h
  unfold F_BP_test at h
  rw [if_pos hg] at h
  refine pE_rel (d := d + 3) ?_
  show pmE pG _ mi_BP_test 0 [some (.ref a), some (.int p0), some (.int p1), some (.int p2), some (.int p3), some (.int p4), some (.int p5), some (.int p6), none, none] [] S _
  refine pE_jump 2 (pc' := 2) (ls' := [some (.ref a), some (.int p0), some (.int p1), some (.int p2), some (.int p3), some (.int p4), some (.int p5), some (.int p6), none, none]) (st' := [.int p0, .ref a]) (fun _ => rfl) ?_
  obtain ⟨⟨oq2, S1⟩, hq2, h⟩ := obind h
  try dsimp only at h
  cases oq2 with
  | none =>
    try dsimp only at h
    refine pE_iv (Bs := [.int p0]) (st := []) 1 rfl (Or.inl ⟨rfl, rfl⟩) rfl rfl (Nat.le_of_ble_eq_true rfl) (Nat.le_of_ble_eq_true rfl) (g_BP_planAt hq2) (f_BP_planAt sp (d + 2) N S a p0 _ hq2) ?_
    refine pE_jump 3 (pc' := 31) (ls' := [some (.ref a), some (.int p0), some (.int p1), some (.int p2), some (.int p3), some (.int p4), some (.int p5), some (.int p6), some (.null), none]) (st' := []) (fun _ => rfl) ?_
    refine pE_weak [none, none, none, none, none, none, none, none, none, none] trivial ?_
    exact f_BP_test_31 sp d N S1 _ h
  | some q2 =>
    try dsimp only at h
    refine pE_iv (Bs := [.int p0]) (st := []) 1 rfl (Or.inl ⟨rfl, rfl⟩) rfl rfl (Nat.le_of_ble_eq_true rfl) (Nat.le_of_ble_eq_true rfl) (g_BP_planAt hq2) (f_BP_planAt sp (d + 2) N S a p0 _ hq2) ?_
    refine pE_jump 6 (pc' := 17) (ls' := [some (.ref a), some (.int p0), some (.int p1), some (.int p2), some (.int p3), some (.int p4), some (.int p5), some (.int p6), some (.ref q2), none]) (st' := [.int p3, .int p2, .ref q2]) (fun _ => rfl) ?_
    obtain ⟨⟨v4, S3⟩, hv4, h⟩ := obind h
    try dsimp only at h
    refine pE_iv (Bs := [.int p2, .int p3]) (st := []) 1 rfl (Or.inl ⟨rfl, rfl⟩) rfl rfl (Nat.le_of_ble_eq_true rfl) (Nat.le_of_ble_eq_true rfl) (g_Plan_hasPair hv4) (f_Plan_hasPair sp d N S1 q2 p2 p3 _ hv4) ?_
    refine pE_br (v4 = 0) rfl rfl (fun c26 => ?_) (fun c26 => ?_)
    · rw [if_pos c26] at h
      refine pE_weak [none, none, none, none, none, none, none, none, none, none] trivial ?_
      exact f_BP_test_31 sp d N S3 _ h
    · rw [if_neg c26] at h
      refine pE_jump 1 (pc' := 25) (ls' := [some (.ref a), some (.int p0), some (.int p1), some (.int p2), some (.int p3), some (.int p4), some (.int p5), some (.int p6), some (.ref q2), none]) (st' := [.int p4]) (fun _ => rfl) ?_
      obtain ⟨⟨v6, S5⟩, hv6, h⟩ := obind h
      try dsimp only at h
      refine pE_is (Bs := [.int p4]) (st := []) rfl rfl rfl (Nat.le_of_ble_eq_true rfl) (Nat.le_of_ble_eq_true rfl) (f_BP_isEnd sp (d + 2) N S3 p4 _ hv6) ?_
      refine pE_br (¬ v6 = 0) rfl rfl (fun c25 => ?_) (fun c25 => ?_)
      · rw [if_neg c25] at h
        refine pE_jump 1 (pc' := 34) (ls' := [some (.ref a), some (.int p0), some (.int p1), some (.int p2), some (.int p3), some (.int p4), some (.int p5), some (.int p6), some (.ref q2), none]) (st' := [.int p1]) (fun _ => rfl) ?_
        refine pE_br (¬ p1 = 0) rfl rfl (fun c24 => ?_) (fun c24 => ?_)
        · rw [if_neg c24] at h
          refine pE_weak [none, none, some (.int p1), some (.int p2), some (.int p3), some (.int p4), some (.int p5), some (.int p6), some (.ref q2), none] ⟨rfl, ⟨rfl, ⟨rfl, ⟨rfl, ⟨rfl, ⟨rfl, ⟨rfl, trivial⟩⟩⟩⟩⟩⟩⟩ ?_
          exact f_BP_test_59 sp d N p1 p2 p3 p4 p5 p6 q2 S5 _ h
        · have c24 := Decidable.not_not.mp c24
          rw [if_pos c24] at h
          refine pE_jump 2 (pc' := 41) (ls' := [some (.ref a), some (.int p0), some (.int p1), some (.int p2), some (.int p3), some (.int p4), some (.int p5), some (.int p6), some (.ref q2), none]) (st' := [.int p5, .ref q2]) (fun _ => rfl) ?_
          obtain ⟨⟨v8, S7⟩, hv8, h⟩ := obind h
          try dsimp only at h
          refine pE_iv (Bs := [.int p5]) (st := []) 1 rfl (Or.inl ⟨rfl, rfl⟩) rfl rfl (Nat.le_of_ble_eq_true rfl) (Nat.le_of_ble_eq_true rfl) (g_Plan_hasCable hv8) (f_Plan_hasCable sp (d + 1) N S5 q2 p5 _ hv8) ?_
          refine pE_br (v8 = 0) rfl rfl (fun c23 => ?_) (fun c23 => ?_)
          · rw [if_pos c23] at h
            refine pE_weak [none, none, some (.int p1), some (.int p2), some (.int p3), some (.int p4), some (.int p5), some (.int p6), some (.ref q2), none] ⟨rfl, ⟨rfl, ⟨rfl, ⟨rfl, ⟨rfl, ⟨rfl, ⟨rfl, trivial⟩⟩⟩⟩⟩⟩⟩ ?_
            exact f_BP_test_59 sp d N p1 p2 p3 p4 p5 p6 q2 S7 _ h
          · rw [if_neg c23] at h
            refine pE_jump 1 (pc' := 49) (ls' := [some (.ref a), some (.int p0), some (.int p1), some (.int p2), some (.int p3), some (.int p4), some (.int p5), some (.int p6), some (.ref q2), none]) (st' := [.int p6]) (fun _ => rfl) ?_
            obtain ⟨⟨v21, S20⟩, hv21, h⟩ := obind h
            try dsimp only at h
            refine pE_is (Bs := [.int p6]) (st := []) rfl rfl rfl (Nat.le_of_ble_eq_true rfl) (Nat.le_of_ble_eq_true rfl) (f_BP_isEnd sp (d + 2) N S7 p6 _ hv21) ?_
            refine pE_br (v21 = 0) rfl rfl (fun c22 => ?_) (fun c22 => ?_)
            · rw [if_pos c22] at h
              refine pE_weak [none, none, some (.int p1), some (.int p2), some (.int p3), some (.int p4), some (.int p5), some (.int p6), some (.ref q2), none] ⟨rfl, ⟨rfl, ⟨rfl, ⟨rfl, ⟨rfl, ⟨rfl, ⟨rfl, trivial⟩⟩⟩⟩⟩⟩⟩ ?_
              exact f_BP_test_59 sp d N p1 p2 p3 p4 p5 p6 q2 S20 _ h
            · rw [if_neg c22] at h
              refine pE_jump 2 (pc' := 60) (ls' := [some (.ref a), some (.int p0), some (.int p1), some (.int p2), some (.int p3), some (.int p4), some (.int p5), some (.int p6), some (.ref q2), none]) (st' := [.int 1]) (fun _ => rfl) ?_
              refine pE_weak [none, none, some (.int p1), some (.int p2), some (.int p3), some (.int p4), some (.int p5), some (.int p6), some (.ref q2), none] ⟨rfl, ⟨rfl, ⟨rfl, ⟨rfl, ⟨rfl, ⟨rfl, ⟨rfl, trivial⟩⟩⟩⟩⟩⟩⟩ ?_
              exact f_BP_test_60 sp d N p1 p2 p3 p4 p5 p6 q2 1 S20 _ h
      · have c25 := Decidable.not_not.mp c25
        rw [if_pos c25] at h
        refine pE_weak [none, none, none, none, none, none, none, none, none, none] trivial ?_
        exact f_BP_test_31 sp d N S5 _ h
def F_Bench_tell (N : Nat) (S : pm_S) (a : Nat) (p0 : Nat) (p1 : Int32) (p2 : Int32) : Option (Int32 × pm_S) :=
    if rcv S a 0 = true then
    ((oR S p0 4 8).bind fun oq1 => match oq1 with
    | none => none
    | some q1 =>
    (F_Ledger_at N S q1 p1 1).bind fun (v3, S2) =>
    (oR S2 p0 4 8).bind fun oq4 => match oq4 with
    | none => none
    | some q4 =>
    (F_Ledger_at N S2 q4 p1 2).bind fun (v6, S5) =>
    (oR S5 p0 4 8).bind fun oq7 => match oq7 with
    | none => none
    | some q7 =>
    (F_Ledger_at N S5 q7 p1 0).bind fun (v9, S8) =>
    if v9 = 1 then
    ((oR S8 a 0 0).bind fun oq10 => match oq10 with
    | none => none
    | some q10 =>
    (F_Wires_measure N S8 q10 p2 v3 v6).bind fun (v12, S11) =>
    some (v12, S11))
    else
    ((oR S8 a 0 1).bind fun oq13 => match oq13 with
    | none => none
    | some q13 =>
    (oR S8 a 0 0).bind fun oq15 => match oq15 with
    | none => none
    | some q15 =>
    (F_Tone_send N S8 q13 q15 p2 v3 v6).bind fun S16 =>
    (oR S16 a 0 1).bind fun oq17 => match oq17 with
    | none => none
    | some q17 =>
    (oR S16 p0 4 8).bind fun oq24 => match oq24 with
    | none => none
    | some q24 =>
    (F_Ledger_at N S16 q24 p1 3).bind fun (v26, S25) =>
    (oR S25 p0 4 8).bind fun oq27 => match oq27 with
    | none => none
    | some q27 =>
    (F_Ledger_at N S25 q27 p1 4).bind fun (v29, S28) =>
    (F_Tone_comesTo N S28 q17 v26 v29).bind fun (v31, S30) =>
    some (v31, S30)))
    else none
theorem g_Bench_tell {N : Nat} {S : pm_S} {a : Nat} {p0 : Nat} {p1 : Int32} {p2 : Int32} {r : (Int32 × pm_S)} (h : F_Bench_tell N S a p0 p1 p2 = some r) : rcv S a 0 = true := by
  unfold F_Bench_tell at h
  by_cases c : rcv S a 0 = true
  · exact c
  · rw [if_neg c] at h; cases h
set_option maxHeartbeats 4000000 in
set_option maxRecDepth 20000 in
theorem f_Bench_tell (sp : pm_I → List Value → pm_S → pm_O → Prop) (d N : Nat) (S : pm_S) (a : Nat) (p0 : Nat) (p1 : Int32) (p2 : Int32) (r : (Int32 × pm_S)) (h : F_Bench_tell N S a p0 p1 p2 = some r) : pm_rel pG sp (d + 5) mi_Bench_tell [.ref a, .ref p0, .int p1, .int p2] S (some (.int r.1), r.2) := by
  have hg := g_Bench_tell h
  unfold F_Bench_tell at h
  rw [if_pos hg] at h
  refine pE_rel (d := d + 4) ?_
  show pmE pG _ mi_Bench_tell 0 [some (.ref a), some (.ref p0), some (.int p1), some (.int p2), none, none] [] S _
  refine pE_jump 1 (pc' := 1) (ls' := [some (.ref a), some (.ref p0), some (.int p1), some (.int p2), none, none]) (st' := [.ref p0]) (fun _ => rfl) ?_
  obtain ⟨oq1, hq1, h⟩ := obind h
  cases oq1 with
  | none => cases h
  | some q1 =>
    try dsimp only at h
    refine pE_gfS rfl rfl hq1 ?_
    refine pE_jump 2 (pc' := 6) (ls' := [some (.ref a), some (.ref p0), some (.int p1), some (.int p2), none, none]) (st' := [.int 1, .int p1, .ref q1]) (fun _ => rfl) ?_
    obtain ⟨⟨v3, S2⟩, hv3, h⟩ := obind h
    try dsimp only at h
    refine pE_iv (Bs := [.int p1, .int 1]) (st := []) 1 rfl (Or.inl ⟨rfl, rfl⟩) rfl rfl (Nat.le_of_ble_eq_true rfl) (Nat.le_of_ble_eq_true rfl) (g_Ledger_at hv3) (f_Ledger_at sp (d + 3) N S q1 p1 1 _ hv3) ?_
    refine pE_jump 2 (pc' := 12) (ls' := [some (.ref a), some (.ref p0), some (.int p1), some (.int p2), some (.int v3), none]) (st' := [.ref p0]) (fun _ => rfl) ?_
    obtain ⟨oq4, hq4, h⟩ := obind h
    cases oq4 with
    | none => cases h
    | some q4 =>
      try dsimp only at h
      refine pE_gfS rfl rfl hq4 ?_
      refine pE_jump 2 (pc' := 17) (ls' := [some (.ref a), some (.ref p0), some (.int p1), some (.int p2), some (.int v3), none]) (st' := [.int 2, .int p1, .ref q4]) (fun _ => rfl) ?_
      obtain ⟨⟨v6, S5⟩, hv6, h⟩ := obind h
      try dsimp only at h
      refine pE_iv (Bs := [.int p1, .int 2]) (st := []) 1 rfl (Or.inl ⟨rfl, rfl⟩) rfl rfl (Nat.le_of_ble_eq_true rfl) (Nat.le_of_ble_eq_true rfl) (g_Ledger_at hv6) (f_Ledger_at sp (d + 3) N S2 q4 p1 2 _ hv6) ?_
      refine pE_jump 2 (pc' := 23) (ls' := [some (.ref a), some (.ref p0), some (.int p1), some (.int p2), some (.int v3), some (.int v6)]) (st' := [.ref p0]) (fun _ => rfl) ?_
      obtain ⟨oq7, hq7, h⟩ := obind h
      cases oq7 with
      | none => cases h
      | some q7 =>
        try dsimp only at h
        refine pE_gfS rfl rfl hq7 ?_
        refine pE_jump 2 (pc' := 28) (ls' := [some (.ref a), some (.ref p0), some (.int p1), some (.int p2), some (.int v3), some (.int v6)]) (st' := [.int 0, .int p1, .ref q7]) (fun _ => rfl) ?_
        obtain ⟨⟨v9, S8⟩, hv9, h⟩ := obind h
        try dsimp only at h
        refine pE_iv (Bs := [.int p1, .int 0]) (st := []) 1 rfl (Or.inl ⟨rfl, rfl⟩) rfl rfl (Nat.le_of_ble_eq_true rfl) (Nat.le_of_ble_eq_true rfl) (g_Ledger_at hv9) (f_Ledger_at sp (d + 3) N S5 q7 p1 0 _ hv9) ?_
        refine pE_jump 1 (pc' := 32) (ls' := [some (.ref a), some (.ref p0), some (.int p1), some (.int p2), some (.int v3), some (.int v6)]) (st' := [.int 1, .int v9]) (fun _ => rfl) ?_
        refine pE_br (¬ v9 = 1) rfl rfl (fun c32 => ?_) (fun c32 => ?_)
        · rw [if_neg c32] at h
          refine pE_jump 1 (pc' := 49) (ls' := [some (.ref a), some (.ref p0), some (.int p1), some (.int p2), some (.int v3), some (.int v6)]) (st' := [.ref a]) (fun _ => rfl) ?_
          obtain ⟨oq13, hq13, h⟩ := obind h
          cases oq13 with
          | none => cases h
          | some q13 =>
            try dsimp only at h
            refine pE_gfS rfl rfl hq13 ?_
            refine pE_jump 1 (pc' := 53) (ls' := [some (.ref a), some (.ref p0), some (.int p1), some (.int p2), some (.int v3), some (.int v6)]) (st' := [.ref a, .ref q13]) (fun _ => rfl) ?_
            obtain ⟨oq15, hq15, h⟩ := obind h
            cases oq15 with
            | none => cases h
            | some q15 =>
              try dsimp only at h
              refine pE_gfS rfl rfl hq15 ?_
              refine pE_jump 3 (pc' := 61) (ls' := [some (.ref a), some (.ref p0), some (.int p1), some (.int p2), some (.int v3), some (.int v6)]) (st' := [.int v6, .int v3, .int p2, .ref q15, .ref q13]) (fun _ => rfl) ?_
              obtain ⟨S16, hS16, h⟩ := obind h
              refine pE_iv (Bs := [.ref q15, .int p2, .int v3, .int v6]) (st := []) 1 rfl (Or.inl ⟨rfl, rfl⟩) rfl rfl (Nat.le_of_ble_eq_true rfl) (Nat.le_of_ble_eq_true rfl) (g_Tone_send hS16) (f_Tone_send sp d N S8 q13 q15 p2 v3 v6 _ hS16) ?_
              refine pE_jump 1 (pc' := 65) (ls' := [some (.ref a), some (.ref p0), some (.int p1), some (.int p2), some (.int v3), some (.int v6)]) (st' := [.ref a]) (fun _ => rfl) ?_
              obtain ⟨oq17, hq17, h⟩ := obind h
              cases oq17 with
              | none => cases h
              | some q17 =>
                try dsimp only at h
                refine pE_gfS rfl rfl hq17 ?_
                refine pE_jump 1 (pc' := 69) (ls' := [some (.ref a), some (.ref p0), some (.int p1), some (.int p2), some (.int v3), some (.int v6)]) (st' := [.ref p0, .ref q17]) (fun _ => rfl) ?_
                obtain ⟨oq24, hq24, h⟩ := obind h
                cases oq24 with
                | none => cases h
                | some q24 =>
                  try dsimp only at h
                  refine pE_gfS rfl rfl hq24 ?_
                  refine pE_jump 2 (pc' := 74) (ls' := [some (.ref a), some (.ref p0), some (.int p1), some (.int p2), some (.int v3), some (.int v6)]) (st' := [.int 3, .int p1, .ref q24, .ref q17]) (fun _ => rfl) ?_
                  obtain ⟨⟨v26, S25⟩, hv26, h⟩ := obind h
                  try dsimp only at h
                  refine pE_iv (Bs := [.int p1, .int 3]) (st := [.ref q17]) 1 rfl (Or.inl ⟨rfl, rfl⟩) rfl rfl (Nat.le_of_ble_eq_true rfl) (Nat.le_of_ble_eq_true rfl) (g_Ledger_at hv26) (f_Ledger_at sp (d + 3) N S16 q24 p1 3 _ hv26) ?_
                  refine pE_jump 1 (pc' := 78) (ls' := [some (.ref a), some (.ref p0), some (.int p1), some (.int p2), some (.int v3), some (.int v6)]) (st' := [.ref p0, .int v26, .ref q17]) (fun _ => rfl) ?_
                  obtain ⟨oq27, hq27, h⟩ := obind h
                  cases oq27 with
                  | none => cases h
                  | some q27 =>
                    try dsimp only at h
                    refine pE_gfS rfl rfl hq27 ?_
                    refine pE_jump 2 (pc' := 83) (ls' := [some (.ref a), some (.ref p0), some (.int p1), some (.int p2), some (.int v3), some (.int v6)]) (st' := [.int 4, .int p1, .ref q27, .int v26, .ref q17]) (fun _ => rfl) ?_
                    obtain ⟨⟨v29, S28⟩, hv29, h⟩ := obind h
                    try dsimp only at h
                    refine pE_iv (Bs := [.int p1, .int 4]) (st := [.int v26, .ref q17]) 1 rfl (Or.inl ⟨rfl, rfl⟩) rfl rfl (Nat.le_of_ble_eq_true rfl) (Nat.le_of_ble_eq_true rfl) (g_Ledger_at hv29) (f_Ledger_at sp (d + 3) N S25 q27 p1 4 _ hv29) ?_
                    obtain ⟨⟨v31, S30⟩, hv31, h⟩ := obind h
                    try dsimp only at h
                    refine pE_iv (Bs := [.int v26, .int v29]) (st := []) 1 rfl (Or.inl ⟨rfl, rfl⟩) rfl rfl (Nat.le_of_ble_eq_true rfl) (Nat.le_of_ble_eq_true rfl) (g_Tone_comesTo hv31) (f_Tone_comesTo sp (d + 2) N S28 q17 v26 v29 _ hv31) ?_
                    cases h
                    exact pE_ret rfl rfl rfl
        · have c32 := Decidable.not_not.mp c32
          rw [if_pos c32] at h
          refine pE_jump 1 (pc' := 36) (ls' := [some (.ref a), some (.ref p0), some (.int p1), some (.int p2), some (.int v3), some (.int v6)]) (st' := [.ref a]) (fun _ => rfl) ?_
          obtain ⟨oq10, hq10, h⟩ := obind h
          cases oq10 with
          | none => cases h
          | some q10 =>
            try dsimp only at h
            refine pE_gfS rfl rfl hq10 ?_
            refine pE_jump 3 (pc' := 44) (ls' := [some (.ref a), some (.ref p0), some (.int p1), some (.int p2), some (.int v3), some (.int v6)]) (st' := [.int v6, .int v3, .int p2, .ref q10]) (fun _ => rfl) ?_
            obtain ⟨⟨v12, S11⟩, hv12, h⟩ := obind h
            try dsimp only at h
            refine pE_iv (Bs := [.int p2, .int v3, .int v6]) (st := []) 1 rfl (Or.inl ⟨rfl, rfl⟩) rfl rfl (Nat.le_of_ble_eq_true rfl) (Nat.le_of_ble_eq_true rfl) (g_Wires_measure hv12) (f_Wires_measure sp (d + 1) N S8 q10 p2 v3 v6 _ hv12) ?_
            cases h
            exact pE_ret rfl rfl rfl
def F_BP_tells_25 (N : Nat)   (S : pm_S) : Option (Int32 × pm_S) :=
    some ((-1), S)
set_option maxHeartbeats 4000000 in
set_option maxRecDepth 20000 in
theorem f_BP_tells_25 (sp : pm_I → List Value → pm_S → pm_O → Prop) (d N : Nat)   (S : pm_S)  (r : (Int32 × pm_S)) (h : F_BP_tells_25 N   S = some r) : pmE pG (pm_rel pG sp (d + 5)) mi_BP_tells 25 [none, none, none, none, none, none] [] S (some (.int r.1), r.2) := by
  unfold F_BP_tells_25 at h
  refine pE_jump 1 (pc' := 26) (ls' := [none, none, none, none, none, none]) (st' := [.int (-1)]) (fun _ => rfl) ?_
  cases h
  exact pE_ret rfl rfl rfl
def F_BP_tells (N : Nat) (S : pm_S) (a : Nat) (p0 : Int32) (p1 : Int32) (p2 : Int32) (p3 : Int32) : Option (Int32 × pm_S) :=
    if rcv S a 10 = true then
    ((F_BP_planWith N S a p0 p2).bind fun (oq2, S1) => match oq2 with
    | none => F_BP_tells_25 N S1
    | some q2 =>
    (oR S1 q2 4 8).bind fun oq3 => match oq3 with
    | none => none
    | some q3 =>
    (F_Ledger_has N S1 q3 p1).bind fun (v5, S4) =>
    if v5 = 0 then
    F_BP_tells_25 N S4
    else
    ((oR S4 a 10 3).bind fun oq6 => match oq6 with
    | none => none
    | some q6 =>
    (oR S4 q6 0 0).bind fun oq7 => match oq7 with
    | none => none
    | some q7 =>
    (F_Wires_lay N S4 q7 q2 p2).bind fun S8 =>
    (oR S8 a 10 3).bind fun oq9 => match oq9 with
    | none => none
    | some q9 =>
    (F_Bench_tell N S8 q9 q2 p1 p3).bind fun (v11, S10) =>
    some (v11, S10)))
    else none
theorem g_BP_tells {N : Nat} {S : pm_S} {a : Nat} {p0 : Int32} {p1 : Int32} {p2 : Int32} {p3 : Int32} {r : (Int32 × pm_S)} (h : F_BP_tells N S a p0 p1 p2 p3 = some r) : rcv S a 10 = true := by
  unfold F_BP_tells at h
  by_cases c : rcv S a 10 = true
  · exact c
  · rw [if_neg c] at h; cases h
set_option maxHeartbeats 4000000 in
set_option maxRecDepth 20000 in
theorem f_BP_tells (sp : pm_I → List Value → pm_S → pm_O → Prop) (d N : Nat) (S : pm_S) (a : Nat) (p0 : Int32) (p1 : Int32) (p2 : Int32) (p3 : Int32) (r : (Int32 × pm_S)) (h : F_BP_tells N S a p0 p1 p2 p3 = some r) : pm_rel pG sp (d + 6) mi_BP_tells [.ref a, .int p0, .int p1, .int p2, .int p3] S (some (.int r.1), r.2) := by
  have hg := g_BP_tells h
  unfold F_BP_tells at h
  rw [if_pos hg] at h
  refine pE_rel (d := d + 5) ?_
  show pmE pG _ mi_BP_tells 0 [some (.ref a), some (.int p0), some (.int p1), some (.int p2), some (.int p3), none] [] S _
  refine pE_jump 3 (pc' := 3) (ls' := [some (.ref a), some (.int p0), some (.int p1), some (.int p2), some (.int p3), none]) (st' := [.int p2, .int p0, .ref a]) (fun _ => rfl) ?_
  obtain ⟨⟨oq2, S1⟩, hq2, h⟩ := obind h
  try dsimp only at h
  cases oq2 with
  | none =>
    try dsimp only at h
    refine pE_iv (Bs := [.int p0, .int p2]) (st := []) 1 rfl (Or.inl ⟨rfl, rfl⟩) rfl rfl (Nat.le_of_ble_eq_true rfl) (Nat.le_of_ble_eq_true rfl) (g_BP_planWith hq2) (f_BP_planWith sp (d + 1) N S a p0 p2 _ hq2) ?_
    refine pE_jump 3 (pc' := 25) (ls' := [some (.ref a), some (.int p0), some (.int p1), some (.int p2), some (.int p3), some (.null)]) (st' := []) (fun _ => rfl) ?_
    refine pE_weak [none, none, none, none, none, none] trivial ?_
    exact f_BP_tells_25 sp d N S1 _ h
  | some q2 =>
    try dsimp only at h
    refine pE_iv (Bs := [.int p0, .int p2]) (st := []) 1 rfl (Or.inl ⟨rfl, rfl⟩) rfl rfl (Nat.le_of_ble_eq_true rfl) (Nat.le_of_ble_eq_true rfl) (g_BP_planWith hq2) (f_BP_planWith sp (d + 1) N S a p0 p2 _ hq2) ?_
    refine pE_jump 4 (pc' := 15) (ls' := [some (.ref a), some (.int p0), some (.int p1), some (.int p2), some (.int p3), some (.ref q2)]) (st' := [.ref q2]) (fun _ => rfl) ?_
    obtain ⟨oq3, hq3, h⟩ := obind h
    cases oq3 with
    | none => cases h
    | some q3 =>
      try dsimp only at h
      refine pE_gfS rfl rfl hq3 ?_
      refine pE_jump 1 (pc' := 19) (ls' := [some (.ref a), some (.int p0), some (.int p1), some (.int p2), some (.int p3), some (.ref q2)]) (st' := [.int p1, .ref q3]) (fun _ => rfl) ?_
      obtain ⟨⟨v5, S4⟩, hv5, h⟩ := obind h
      try dsimp only at h
      refine pE_iv (Bs := [.int p1]) (st := []) 1 rfl (Or.inl ⟨rfl, rfl⟩) rfl rfl (Nat.le_of_ble_eq_true rfl) (Nat.le_of_ble_eq_true rfl) (g_Ledger_has hv5) (f_Ledger_has sp (d + 4) N S1 q3 p1 _ hv5) ?_
      refine pE_br (¬ v5 = 0) rfl rfl (fun c12 => ?_) (fun c12 => ?_)
      · rw [if_neg c12] at h
        refine pE_jump 1 (pc' := 28) (ls' := [some (.ref a), some (.int p0), some (.int p1), some (.int p2), some (.int p3), some (.ref q2)]) (st' := [.ref a]) (fun _ => rfl) ?_
        obtain ⟨oq6, hq6, h⟩ := obind h
        cases oq6 with
        | none => cases h
        | some q6 =>
          try dsimp only at h
          refine pE_gfS rfl rfl hq6 ?_
          obtain ⟨oq7, hq7, h⟩ := obind h
          cases oq7 with
          | none => cases h
          | some q7 =>
            try dsimp only at h
            refine pE_gfS rfl rfl hq7 ?_
            refine pE_jump 2 (pc' := 37) (ls' := [some (.ref a), some (.int p0), some (.int p1), some (.int p2), some (.int p3), some (.ref q2)]) (st' := [.int p2, .ref q2, .ref q7]) (fun _ => rfl) ?_
            obtain ⟨S8, hS8, h⟩ := obind h
            refine pE_iv (Bs := [.ref q2, .int p2]) (st := []) 1 rfl (Or.inl ⟨rfl, rfl⟩) rfl rfl (Nat.le_of_ble_eq_true rfl) (Nat.le_of_ble_eq_true rfl) (g_Wires_lay hS8) (f_Wires_lay sp d N S4 q7 q2 p2 _ hS8) ?_
            refine pE_jump 1 (pc' := 41) (ls' := [some (.ref a), some (.int p0), some (.int p1), some (.int p2), some (.int p3), some (.ref q2)]) (st' := [.ref a]) (fun _ => rfl) ?_
            obtain ⟨oq9, hq9, h⟩ := obind h
            cases oq9 with
            | none => cases h
            | some q9 =>
              try dsimp only at h
              refine pE_gfS rfl rfl hq9 ?_
              refine pE_jump 3 (pc' := 49) (ls' := [some (.ref a), some (.int p0), some (.int p1), some (.int p2), some (.int p3), some (.ref q2)]) (st' := [.int p3, .int p1, .ref q2, .ref q9]) (fun _ => rfl) ?_
              obtain ⟨⟨v11, S10⟩, hv11, h⟩ := obind h
              try dsimp only at h
              refine pE_iv (Bs := [.ref q2, .int p1, .int p3]) (st := []) 1 rfl (Or.inl ⟨rfl, rfl⟩) rfl rfl (Nat.le_of_ble_eq_true rfl) (Nat.le_of_ble_eq_true rfl) (g_Bench_tell hv11) (f_Bench_tell sp d N S8 q9 q2 p1 p3 _ hv11) ?_
              cases h
              exact pE_ret rfl rfl rfl
      · have c12 := Decidable.not_not.mp c12
        rw [if_pos c12] at h
        refine pE_weak [none, none, none, none, none, none] trivial ?_
        exact f_BP_tells_25 sp d N S4 _ h
def F_Sheet_forgetFits (N : Nat) (S : pm_S) (a : Nat) : Option pm_S :=
    if rcv S a 5 = true then
    ((wF S a 5 4 .boolean (.int 0)).bind fun S1 =>
    some S1)
    else none
theorem g_Sheet_forgetFits {N : Nat} {S : pm_S} {a : Nat} {r : pm_S} (h : F_Sheet_forgetFits N S a = some r) : rcv S a 5 = true := by
  unfold F_Sheet_forgetFits at h
  by_cases c : rcv S a 5 = true
  · exact c
  · rw [if_neg c] at h; cases h
set_option maxHeartbeats 4000000 in
set_option maxRecDepth 20000 in
theorem f_Sheet_forgetFits (sp : pm_I → List Value → pm_S → pm_O → Prop) (d N : Nat) (S : pm_S) (a : Nat) (r : pm_S) (h : F_Sheet_forgetFits N S a = some r) : pm_rel pG sp (d + 1) mi_Sheet_forgetFits [.ref a] S (none, r) := by
  have hg := g_Sheet_forgetFits h
  unfold F_Sheet_forgetFits at h
  rw [if_pos hg] at h
  refine pE_rel (d := d + 0) ?_
  show pmE pG _ mi_Sheet_forgetFits 0 [some (.ref a)] [] S _
  refine pE_jump 2 (pc' := 2) (ls' := [some (.ref a)]) (st' := [.int 0, .ref a]) (fun _ => rfl) ?_
  obtain ⟨S1, hS1, h⟩ := obind h
  refine pE_pf rfl rfl rfl hS1 ?_
  cases h
  exact pE_ret rfl rfl rfl
def F_Plan_addReading_14_2 (N : Nat)  (x0 : Nat) (x3 : Int32) (t0 : Int32) (t1 : Int32) (t2 : Nat) (S : pm_S) : Option (Int32 × pm_S) :=
    (F_Ledger_add N S t2 t1 t0 x3 0 0).bind fun (v3, S2) =>
    if v3 = (-1) then
    some ((-1), S2)
    else
    ((oR S2 x0 4 11).bind fun oq4 => match oq4 with
    | none => none
    | some q4 =>
    (F_Sheet_forgetFits N S2 q4).bind fun S5 =>
    (oR S5 x0 4 9).bind fun oq6 => match oq6 with
    | none => none
    | some q6 =>
    (F_Ledger_size N S5 q6).bind fun (v8, S7) =>
    some (v8, S7))
set_option maxHeartbeats 4000000 in
set_option maxRecDepth 20000 in
theorem f_Plan_addReading_14_2 (sp : pm_I → List Value → pm_S → pm_O → Prop) (d N : Nat)  (x0 : Nat) (x3 : Int32) (t0 : Int32) (t1 : Int32) (t2 : Nat) (S : pm_S)  (r : (Int32 × pm_S)) (h : F_Plan_addReading_14_2 N  x0 x3 t0 t1 t2 S = some r) : pmE pG (pm_rel pG sp (d + 2)) mi_Plan_addReading 14 [some (.ref x0), none, none, some (.int x3)] [.int t0, .int t1, .ref t2] S (some (.int r.1), r.2) := by
  unfold F_Plan_addReading_14_2 at h
  refine pE_jump 3 (pc' := 17) (ls' := [some (.ref x0), none, none, some (.int x3)]) (st' := [.int 0, .int 0, .int x3, .int t0, .int t1, .ref t2]) (fun _ => rfl) ?_
  obtain ⟨⟨v3, S2⟩, hv3, h⟩ := obind h
  try dsimp only at h
  refine pE_iv (Bs := [.int t1, .int t0, .int x3, .int 0, .int 0]) (st := []) 1 rfl (Or.inl ⟨rfl, rfl⟩) rfl rfl (Nat.le_of_ble_eq_true rfl) (Nat.le_of_ble_eq_true rfl) (g_Ledger_add hv3) (f_Ledger_add sp d N S t2 t1 t0 x3 0 0 _ hv3) ?_
  refine pE_jump 1 (pc' := 21) (ls' := [some (.ref x0), none, none, some (.int x3)]) (st' := [.int (-1), .int v3]) (fun _ => rfl) ?_
  refine pE_br (¬ v3 = (-1)) rfl rfl (fun c9 => ?_) (fun c9 => ?_)
  · rw [if_neg c9] at h
    refine pE_jump 1 (pc' := 27) (ls' := [some (.ref x0), none, none, some (.int x3)]) (st' := [.ref x0]) (fun _ => rfl) ?_
    obtain ⟨oq4, hq4, h⟩ := obind h
    cases oq4 with
    | none => cases h
    | some q4 =>
      try dsimp only at h
      refine pE_gfS rfl rfl hq4 ?_
      obtain ⟨S5, hS5, h⟩ := obind h
      refine pE_iv (Bs := []) (st := []) 1 rfl (Or.inl ⟨rfl, rfl⟩) rfl rfl (Nat.le_of_ble_eq_true rfl) (Nat.le_of_ble_eq_true rfl) (g_Sheet_forgetFits hS5) (f_Sheet_forgetFits sp (d + 1) N S2 q4 _ hS5) ?_
      refine pE_jump 1 (pc' := 34) (ls' := [some (.ref x0), none, none, some (.int x3)]) (st' := [.ref x0]) (fun _ => rfl) ?_
      obtain ⟨oq6, hq6, h⟩ := obind h
      cases oq6 with
      | none => cases h
      | some q6 =>
        try dsimp only at h
        refine pE_gfS rfl rfl hq6 ?_
        obtain ⟨⟨v8, S7⟩, hv8, h⟩ := obind h
        try dsimp only at h
        refine pE_iv (Bs := []) (st := []) 1 rfl (Or.inl ⟨rfl, rfl⟩) rfl rfl (Nat.le_of_ble_eq_true rfl) (Nat.le_of_ble_eq_true rfl) (g_Ledger_size hv8) (f_Ledger_size sp (d + 1) N S5 q6 _ hv8) ?_
        cases h
        exact pE_ret rfl rfl rfl
  · have c9 := Decidable.not_not.mp c9
    rw [if_pos c9] at h
    refine pE_jump 1 (pc' := 25) (ls' := [some (.ref x0), none, none, some (.int x3)]) (st' := [.int (-1)]) (fun _ => rfl) ?_
    cases h
    exact pE_ret rfl rfl rfl
def F_Plan_addReading (N : Nat) (S : pm_S) (a : Nat) (p0 : Int32) (p1 : Int32) (p2 : Int32) : Option (Int32 × pm_S) :=
    if rcv S a 4 = true then
    ((oR S a 4 9).bind fun oq1 => match oq1 with
    | none => none
    | some q1 =>
    if p1 = 0 then
    F_Plan_addReading_14_2 N a p2 0 p0 q1 S
    else
    F_Plan_addReading_14_2 N a p2 1 p0 q1 S)
    else none
theorem g_Plan_addReading {N : Nat} {S : pm_S} {a : Nat} {p0 : Int32} {p1 : Int32} {p2 : Int32} {r : (Int32 × pm_S)} (h : F_Plan_addReading N S a p0 p1 p2 = some r) : rcv S a 4 = true := by
  unfold F_Plan_addReading at h
  by_cases c : rcv S a 4 = true
  · exact c
  · rw [if_neg c] at h; cases h
set_option maxHeartbeats 4000000 in
set_option maxRecDepth 20000 in
theorem f_Plan_addReading (sp : pm_I → List Value → pm_S → pm_O → Prop) (d N : Nat) (S : pm_S) (a : Nat) (p0 : Int32) (p1 : Int32) (p2 : Int32) (r : (Int32 × pm_S)) (h : F_Plan_addReading N S a p0 p1 p2 = some r) : pm_rel pG sp (d + 3) mi_Plan_addReading [.ref a, .int p0, .int p1, .int p2] S (some (.int r.1), r.2) := by
  have hg := g_Plan_addReading h
  unfold F_Plan_addReading at h
  rw [if_pos hg] at h
  refine pE_rel (d := d + 2) ?_
  show pmE pG _ mi_Plan_addReading 0 [some (.ref a), some (.int p0), some (.int p1), some (.int p2)] [] S _
  refine pE_jump 1 (pc' := 1) (ls' := [some (.ref a), some (.int p0), some (.int p1), some (.int p2)]) (st' := [.ref a]) (fun _ => rfl) ?_
  obtain ⟨oq1, hq1, h⟩ := obind h
  cases oq1 with
  | none => cases h
  | some q1 =>
    try dsimp only at h
    refine pE_gfS rfl rfl hq1 ?_
    refine pE_jump 2 (pc' := 6) (ls' := [some (.ref a), some (.int p0), some (.int p1), some (.int p2)]) (st' := [.int p1, .int p0, .ref q1]) (fun _ => rfl) ?_
    refine pE_br (p1 = 0) rfl rfl (fun c10 => ?_) (fun c10 => ?_)
    · rw [if_pos c10] at h
      refine pE_jump 1 (pc' := 14) (ls' := [some (.ref a), some (.int p0), some (.int p1), some (.int p2)]) (st' := [.int 0, .int p0, .ref q1]) (fun _ => rfl) ?_
      refine pE_weak [some (.ref a), none, none, some (.int p2)] ⟨rfl, ⟨rfl, trivial⟩⟩ ?_
      exact f_Plan_addReading_14_2 sp d N a p2 0 p0 q1 S _ h
    · rw [if_neg c10] at h
      refine pE_jump 2 (pc' := 14) (ls' := [some (.ref a), some (.int p0), some (.int p1), some (.int p2)]) (st' := [.int 1, .int p0, .ref q1]) (fun _ => rfl) ?_
      refine pE_weak [some (.ref a), none, none, some (.int p2)] ⟨rfl, ⟨rfl, trivial⟩⟩ ?_
      exact f_Plan_addReading_14_2 sp d N a p2 1 p0 q1 S _ h
def F_BP_read_29 (N : Nat)   (S : pm_S) : Option (Int32 × pm_S) :=
    some ((-1), S)
set_option maxHeartbeats 4000000 in
set_option maxRecDepth 20000 in
theorem f_BP_read_29 (sp : pm_I → List Value → pm_S → pm_O → Prop) (d N : Nat)   (S : pm_S)  (r : (Int32 × pm_S)) (h : F_BP_read_29 N   S = some r) : pmE pG (pm_rel pG sp (d + 3)) mi_BP_read 29 [none, none, none, none, none, none] [] S (some (.int r.1), r.2) := by
  unfold F_BP_read_29 at h
  refine pE_jump 1 (pc' := 30) (ls' := [none, none, none, none, none, none]) (st' := [.int (-1)]) (fun _ => rfl) ?_
  cases h
  exact pE_ret rfl rfl rfl
def F_BP_read (N : Nat) (S : pm_S) (a : Nat) (p0 : Int32) (p1 : Int32) (p2 : Int32) (p3 : Int32) : Option (Int32 × pm_S) :=
    if rcv S a 10 = true then
    ((F_BP_planAt N S a p0).bind fun (oq2, S1) => match oq2 with
    | none => F_BP_read_29 N S1
    | some q2 =>
    (oR S1 q2 4 8).bind fun oq3 => match oq3 with
    | none => none
    | some q3 =>
    (F_Ledger_has N S1 q3 p1).bind fun (v5, S4) =>
    if v5 = 0 then
    F_BP_read_29 N S4
    else
    (if 0 ≤ p3 then
    ((F_Plan_addReading N S4 q2 p1 p2 p3).bind fun (v7, S6) =>
    some (v7, S6))
    else
    F_BP_read_29 N S4))
    else none
theorem g_BP_read {N : Nat} {S : pm_S} {a : Nat} {p0 : Int32} {p1 : Int32} {p2 : Int32} {p3 : Int32} {r : (Int32 × pm_S)} (h : F_BP_read N S a p0 p1 p2 p3 = some r) : rcv S a 10 = true := by
  unfold F_BP_read at h
  by_cases c : rcv S a 10 = true
  · exact c
  · rw [if_neg c] at h; cases h
set_option maxHeartbeats 4000000 in
set_option maxRecDepth 20000 in
theorem f_BP_read (sp : pm_I → List Value → pm_S → pm_O → Prop) (d N : Nat) (S : pm_S) (a : Nat) (p0 : Int32) (p1 : Int32) (p2 : Int32) (p3 : Int32) (r : (Int32 × pm_S)) (h : F_BP_read N S a p0 p1 p2 p3 = some r) : pm_rel pG sp (d + 4) mi_BP_read [.ref a, .int p0, .int p1, .int p2, .int p3] S (some (.int r.1), r.2) := by
  have hg := g_BP_read h
  unfold F_BP_read at h
  rw [if_pos hg] at h
  refine pE_rel (d := d + 3) ?_
  show pmE pG _ mi_BP_read 0 [some (.ref a), some (.int p0), some (.int p1), some (.int p2), some (.int p3), none] [] S _
  refine pE_jump 2 (pc' := 2) (ls' := [some (.ref a), some (.int p0), some (.int p1), some (.int p2), some (.int p3), none]) (st' := [.int p0, .ref a]) (fun _ => rfl) ?_
  obtain ⟨⟨oq2, S1⟩, hq2, h⟩ := obind h
  try dsimp only at h
  cases oq2 with
  | none =>
    try dsimp only at h
    refine pE_iv (Bs := [.int p0]) (st := []) 1 rfl (Or.inl ⟨rfl, rfl⟩) rfl rfl (Nat.le_of_ble_eq_true rfl) (Nat.le_of_ble_eq_true rfl) (g_BP_planAt hq2) (f_BP_planAt sp (d + 2) N S a p0 _ hq2) ?_
    refine pE_jump 3 (pc' := 29) (ls' := [some (.ref a), some (.int p0), some (.int p1), some (.int p2), some (.int p3), some (.null)]) (st' := []) (fun _ => rfl) ?_
    refine pE_weak [none, none, none, none, none, none] trivial ?_
    exact f_BP_read_29 sp d N S1 _ h
  | some q2 =>
    try dsimp only at h
    refine pE_iv (Bs := [.int p0]) (st := []) 1 rfl (Or.inl ⟨rfl, rfl⟩) rfl rfl (Nat.le_of_ble_eq_true rfl) (Nat.le_of_ble_eq_true rfl) (g_BP_planAt hq2) (f_BP_planAt sp (d + 2) N S a p0 _ hq2) ?_
    refine pE_jump 4 (pc' := 14) (ls' := [some (.ref a), some (.int p0), some (.int p1), some (.int p2), some (.int p3), some (.ref q2)]) (st' := [.ref q2]) (fun _ => rfl) ?_
    obtain ⟨oq3, hq3, h⟩ := obind h
    cases oq3 with
    | none => cases h
    | some q3 =>
      try dsimp only at h
      refine pE_gfS rfl rfl hq3 ?_
      refine pE_jump 1 (pc' := 18) (ls' := [some (.ref a), some (.int p0), some (.int p1), some (.int p2), some (.int p3), some (.ref q2)]) (st' := [.int p1, .ref q3]) (fun _ => rfl) ?_
      obtain ⟨⟨v5, S4⟩, hv5, h⟩ := obind h
      try dsimp only at h
      refine pE_iv (Bs := [.int p1]) (st := []) 1 rfl (Or.inl ⟨rfl, rfl⟩) rfl rfl (Nat.le_of_ble_eq_true rfl) (Nat.le_of_ble_eq_true rfl) (g_Ledger_has hv5) (f_Ledger_has sp (d + 2) N S1 q3 p1 _ hv5) ?_
      refine pE_br (v5 = 0) rfl rfl (fun c9 => ?_) (fun c9 => ?_)
      · rw [if_pos c9] at h
        refine pE_weak [none, none, none, none, none, none] trivial ?_
        exact f_BP_read_29 sp d N S4 _ h
      · rw [if_neg c9] at h
        refine pE_jump 1 (pc' := 26) (ls' := [some (.ref a), some (.int p0), some (.int p1), some (.int p2), some (.int p3), some (.ref q2)]) (st' := [.int p3]) (fun _ => rfl) ?_
        refine pE_br (0 ≤ p3) rfl rfl (fun c8 => ?_) (fun c8 => ?_)
        · rw [if_pos c8] at h
          refine pE_jump 4 (pc' := 37) (ls' := [some (.ref a), some (.int p0), some (.int p1), some (.int p2), some (.int p3), some (.ref q2)]) (st' := [.int p3, .int p2, .int p1, .ref q2]) (fun _ => rfl) ?_
          obtain ⟨⟨v7, S6⟩, hv7, h⟩ := obind h
          try dsimp only at h
          refine pE_iv (Bs := [.int p1, .int p2, .int p3]) (st := []) 1 rfl (Or.inl ⟨rfl, rfl⟩) rfl rfl (Nat.le_of_ble_eq_true rfl) (Nat.le_of_ble_eq_true rfl) (g_Plan_addReading hv7) (f_Plan_addReading sp d N S4 q2 p1 p2 p3 _ hv7) ?_
          cases h
          exact pE_ret rfl rfl rfl
        · rw [if_neg c8] at h
          refine pE_weak [none, none, none, none, none, none] trivial ?_
          exact f_BP_read_29 sp d N S4 _ h
def F_Plan_dropReading (N : Nat) (S : pm_S) (a : Nat) : Option (Int32 × pm_S) :=
    if rcv S a 4 = true then
    ((oR S a 4 9).bind fun oq1 => match oq1 with
    | none => none
    | some q1 =>
    (F_Ledger_size N S q1).bind fun (v3, S2) =>
    if v3 = 0 then
    some ((-1), S2)
    else
    ((oR S2 a 4 9).bind fun oq4 => match oq4 with
    | none => none
    | some q4 =>
    (oR S2 a 4 9).bind fun oq8 => match oq8 with
    | none => none
    | some q8 =>
    (F_Ledger_size N S2 q8).bind fun (v10, S9) =>
    (F_Ledger_dropTo N S9 q4 (v10 - 1)).bind fun S11 =>
    (oR S11 a 4 11).bind fun oq12 => match oq12 with
    | none => none
    | some q12 =>
    (F_Sheet_forgetFits N S11 q12).bind fun S13 =>
    (oR S13 a 4 9).bind fun oq14 => match oq14 with
    | none => none
    | some q14 =>
    (F_Ledger_size N S13 q14).bind fun (v16, S15) =>
    some (v16, S15)))
    else none
theorem g_Plan_dropReading {N : Nat} {S : pm_S} {a : Nat} {r : (Int32 × pm_S)} (h : F_Plan_dropReading N S a = some r) : rcv S a 4 = true := by
  unfold F_Plan_dropReading at h
  by_cases c : rcv S a 4 = true
  · exact c
  · rw [if_neg c] at h; cases h
set_option maxHeartbeats 4000000 in
set_option maxRecDepth 20000 in
theorem f_Plan_dropReading (sp : pm_I → List Value → pm_S → pm_O → Prop) (d N : Nat) (S : pm_S) (a : Nat) (r : (Int32 × pm_S)) (h : F_Plan_dropReading N S a = some r) : pm_rel pG sp (d + 2) mi_Plan_dropReading [.ref a] S (some (.int r.1), r.2) := by
  have hg := g_Plan_dropReading h
  unfold F_Plan_dropReading at h
  rw [if_pos hg] at h
  refine pE_rel (d := d + 1) ?_
  show pmE pG _ mi_Plan_dropReading 0 [some (.ref a)] [] S _
  refine pE_jump 1 (pc' := 1) (ls' := [some (.ref a)]) (st' := [.ref a]) (fun _ => rfl) ?_
  obtain ⟨oq1, hq1, h⟩ := obind h
  cases oq1 with
  | none => cases h
  | some q1 =>
    try dsimp only at h
    refine pE_gfS rfl rfl hq1 ?_
    obtain ⟨⟨v3, S2⟩, hv3, h⟩ := obind h
    try dsimp only at h
    refine pE_iv (Bs := []) (st := []) 1 rfl (Or.inl ⟨rfl, rfl⟩) rfl rfl (Nat.le_of_ble_eq_true rfl) (Nat.le_of_ble_eq_true rfl) (g_Ledger_size hv3) (f_Ledger_size sp d N S q1 _ hv3) ?_
    refine pE_br (¬ v3 = 0) rfl rfl (fun c17 => ?_) (fun c17 => ?_)
    · rw [if_neg c17] at h
      refine pE_jump 1 (pc' := 13) (ls' := [some (.ref a)]) (st' := [.ref a]) (fun _ => rfl) ?_
      obtain ⟨oq4, hq4, h⟩ := obind h
      cases oq4 with
      | none => cases h
      | some q4 =>
        try dsimp only at h
        refine pE_gfS rfl rfl hq4 ?_
        refine pE_jump 1 (pc' := 17) (ls' := [some (.ref a)]) (st' := [.ref a, .ref q4]) (fun _ => rfl) ?_
        obtain ⟨oq8, hq8, h⟩ := obind h
        cases oq8 with
        | none => cases h
        | some q8 =>
          try dsimp only at h
          refine pE_gfS rfl rfl hq8 ?_
          obtain ⟨⟨v10, S9⟩, hv10, h⟩ := obind h
          try dsimp only at h
          refine pE_iv (Bs := []) (st := [.ref q4]) 1 rfl (Or.inl ⟨rfl, rfl⟩) rfl rfl (Nat.le_of_ble_eq_true rfl) (Nat.le_of_ble_eq_true rfl) (g_Ledger_size hv10) (f_Ledger_size sp d N S2 q8 _ hv10) ?_
          refine pE_jump 2 (pc' := 25) (ls' := [some (.ref a)]) (st' := [.int (v10 - 1), .ref q4]) (fun _ => rfl) ?_
          obtain ⟨S11, hS11, h⟩ := obind h
          refine pE_iv (Bs := [.int (v10 - 1)]) (st := []) 1 rfl (Or.inl ⟨rfl, rfl⟩) rfl rfl (Nat.le_of_ble_eq_true rfl) (Nat.le_of_ble_eq_true rfl) (g_Ledger_dropTo hS11) (f_Ledger_dropTo sp d N S9 q4 (v10 - 1) _ hS11) ?_
          refine pE_jump 1 (pc' := 29) (ls' := [some (.ref a)]) (st' := [.ref a]) (fun _ => rfl) ?_
          obtain ⟨oq12, hq12, h⟩ := obind h
          cases oq12 with
          | none => cases h
          | some q12 =>
            try dsimp only at h
            refine pE_gfS rfl rfl hq12 ?_
            obtain ⟨S13, hS13, h⟩ := obind h
            refine pE_iv (Bs := []) (st := []) 1 rfl (Or.inl ⟨rfl, rfl⟩) rfl rfl (Nat.le_of_ble_eq_true rfl) (Nat.le_of_ble_eq_true rfl) (g_Sheet_forgetFits hS13) (f_Sheet_forgetFits sp d N S11 q12 _ hS13) ?_
            refine pE_jump 1 (pc' := 36) (ls' := [some (.ref a)]) (st' := [.ref a]) (fun _ => rfl) ?_
            obtain ⟨oq14, hq14, h⟩ := obind h
            cases oq14 with
            | none => cases h
            | some q14 =>
              try dsimp only at h
              refine pE_gfS rfl rfl hq14 ?_
              obtain ⟨⟨v16, S15⟩, hv16, h⟩ := obind h
              try dsimp only at h
              refine pE_iv (Bs := []) (st := []) 1 rfl (Or.inl ⟨rfl, rfl⟩) rfl rfl (Nat.le_of_ble_eq_true rfl) (Nat.le_of_ble_eq_true rfl) (g_Ledger_size hv16) (f_Ledger_size sp d N S13 q14 _ hv16) ?_
              cases h
              exact pE_ret rfl rfl rfl
    · have c17 := Decidable.not_not.mp c17
      rw [if_pos c17] at h
      refine pE_jump 1 (pc' := 11) (ls' := [some (.ref a)]) (st' := [.int (-1)]) (fun _ => rfl) ?_
      cases h
      exact pE_ret rfl rfl rfl
def F_BP_unread_18 (N : Nat)  (t0 : Int32) (S : pm_S) : Option (Int32 × pm_S) :=
    some (t0, S)
set_option maxHeartbeats 4000000 in
set_option maxRecDepth 20000 in
theorem f_BP_unread_18 (sp : pm_I → List Value → pm_S → pm_O → Prop) (d N : Nat)  (t0 : Int32) (S : pm_S)  (r : (Int32 × pm_S)) (h : F_BP_unread_18 N  t0 S = some r) : pmE pG (pm_rel pG sp (d + 2)) mi_BP_unread 18 [none, none, none] [.int t0] S (some (.int r.1), r.2) := by
  unfold F_BP_unread_18 at h
  cases h
  exact pE_ret rfl rfl rfl
def F_BP_unread (N : Nat) (S : pm_S) (a : Nat) (p0 : Int32) : Option (Int32 × pm_S) :=
    if rcv S a 10 = true then
    ((F_BP_planAt N S a p0).bind fun (oq2, S1) => match oq2 with
    | none => F_BP_unread_18 N (-1) S1
    | some q2 =>
    (F_Plan_dropReading N S1 q2).bind fun (v4, S3) =>
    F_BP_unread_18 N v4 S3)
    else none
theorem g_BP_unread {N : Nat} {S : pm_S} {a : Nat} {p0 : Int32} {r : (Int32 × pm_S)} (h : F_BP_unread N S a p0 = some r) : rcv S a 10 = true := by
  unfold F_BP_unread at h
  by_cases c : rcv S a 10 = true
  · exact c
  · rw [if_neg c] at h; cases h
set_option maxHeartbeats 4000000 in
set_option maxRecDepth 20000 in
theorem f_BP_unread (sp : pm_I → List Value → pm_S → pm_O → Prop) (d N : Nat) (S : pm_S) (a : Nat) (p0 : Int32) (r : (Int32 × pm_S)) (h : F_BP_unread N S a p0 = some r) : pm_rel pG sp (d + 3) mi_BP_unread [.ref a, .int p0] S (some (.int r.1), r.2) := by
  have hg := g_BP_unread h
  unfold F_BP_unread at h
  rw [if_pos hg] at h
  refine pE_rel (d := d + 2) ?_
  show pmE pG _ mi_BP_unread 0 [some (.ref a), some (.int p0), none] [] S _
  refine pE_jump 2 (pc' := 2) (ls' := [some (.ref a), some (.int p0), none]) (st' := [.int p0, .ref a]) (fun _ => rfl) ?_
  obtain ⟨⟨oq2, S1⟩, hq2, h⟩ := obind h
  try dsimp only at h
  cases oq2 with
  | none =>
    try dsimp only at h
    refine pE_iv (Bs := [.int p0]) (st := []) 1 rfl (Or.inl ⟨rfl, rfl⟩) rfl rfl (Nat.le_of_ble_eq_true rfl) (Nat.le_of_ble_eq_true rfl) (g_BP_planAt hq2) (f_BP_planAt sp (d + 1) N S a p0 _ hq2) ?_
    refine pE_jump 5 (pc' := 18) (ls' := [some (.ref a), some (.int p0), some (.null)]) (st' := [.int (-1)]) (fun _ => rfl) ?_
    refine pE_weak [none, none, none] trivial ?_
    exact f_BP_unread_18 sp d N (-1) S1 _ h
  | some q2 =>
    try dsimp only at h
    refine pE_iv (Bs := [.int p0]) (st := []) 1 rfl (Or.inl ⟨rfl, rfl⟩) rfl rfl (Nat.le_of_ble_eq_true rfl) (Nat.le_of_ble_eq_true rfl) (g_BP_planAt hq2) (f_BP_planAt sp (d + 1) N S a p0 _ hq2) ?_
    refine pE_jump 4 (pc' := 15) (ls' := [some (.ref a), some (.int p0), some (.ref q2)]) (st' := [.ref q2]) (fun _ => rfl) ?_
    obtain ⟨⟨v4, S3⟩, hv4, h⟩ := obind h
    try dsimp only at h
    refine pE_iv (Bs := []) (st := []) 1 rfl (Or.inl ⟨rfl, rfl⟩) rfl rfl (Nat.le_of_ble_eq_true rfl) (Nat.le_of_ble_eq_true rfl) (g_Plan_dropReading hv4) (f_Plan_dropReading sp d N S1 q2 _ hv4) ?_
    refine pE_weak [none, none, none] trivial ?_
    exact f_BP_unread_18 sp d N v4 S3 _ h
def F_Sheet_columnOf_12 (N : Nat)  (t0 : Int32) (t1 : Int32) (S : pm_S) : Option (Int32 × pm_S) :=
    some (t1 + t0, S)
set_option maxHeartbeats 4000000 in
set_option maxRecDepth 20000 in
theorem f_Sheet_columnOf_12 (sp : pm_I → List Value → pm_S → pm_O → Prop) (d N : Nat)  (t0 : Int32) (t1 : Int32) (S : pm_S)  (r : (Int32 × pm_S)) (h : F_Sheet_columnOf_12 N  t0 t1 S = some r) : pmE pG (pm_rel pG sp (d + 0)) mi_Sheet_columnOf 12 [none, none] [.int t0, .int t1] S (some (.int r.1), r.2) := by
  unfold F_Sheet_columnOf_12 at h
  refine pE_jump 1 (pc' := 13) (ls' := [none, none]) (st' := [.int (t1 + t0)]) (fun _ => rfl) ?_
  cases h
  exact pE_ret rfl rfl rfl
def F_Sheet_columnOf (N : Nat) (S : pm_S) (p0 : Int32) (p1 : Int32) : Option (Int32 × pm_S) :=
    if p1 = 0 then
    F_Sheet_columnOf_12 N 0 (2 * p0) S
    else
    F_Sheet_columnOf_12 N 1 (2 * p0) S
set_option maxHeartbeats 4000000 in
set_option maxRecDepth 20000 in
theorem f_Sheet_columnOf (sp : pm_I → List Value → pm_S → pm_O → Prop) (d N : Nat) (S : pm_S) (p0 : Int32) (p1 : Int32) (r : (Int32 × pm_S)) (h : F_Sheet_columnOf N S p0 p1 = some r) : pm_rel pG sp (d + 1) mi_Sheet_columnOf [.int p0, .int p1] S (some (.int r.1), r.2) := by
  unfold F_Sheet_columnOf at h
  refine pE_rel (d := d + 0) ?_
  show pmE pG _ mi_Sheet_columnOf 0 [some (.int p0), some (.int p1)] [] S _
  refine pE_jump 4 (pc' := 4) (ls' := [some (.int p0), some (.int p1)]) (st' := [.int p1, .int (2 * p0)]) (fun _ => rfl) ?_
  refine pE_br (p1 = 0) rfl rfl (fun c1 => ?_) (fun c1 => ?_)
  · rw [if_pos c1] at h
    refine pE_jump 1 (pc' := 12) (ls' := [some (.int p0), some (.int p1)]) (st' := [.int 0, .int (2 * p0)]) (fun _ => rfl) ?_
    refine pE_weak [none, none] trivial ?_
    exact f_Sheet_columnOf_12 sp d N 0 (2 * p0) S _ h
  · rw [if_neg c1] at h
    refine pE_jump 2 (pc' := 12) (ls' := [some (.int p0), some (.int p1)]) (st' := [.int 1, .int (2 * p0)]) (fun _ => rfl) ?_
    refine pE_weak [none, none] trivial ?_
    exact f_Sheet_columnOf_12 sp d N 1 (2 * p0) S _ h
def F_Bench_columnOfReading_27 (N : Nat)  (t0 : Int32) (t1 : Int32) (S : pm_S) : Option (Int32 × pm_S) :=
    (F_Sheet_columnOf N S t1 t0).bind fun (v8, S7) =>
    some (v8, S7)
set_option maxHeartbeats 4000000 in
set_option maxRecDepth 20000 in
theorem f_Bench_columnOfReading_27 (sp : pm_I → List Value → pm_S → pm_O → Prop) (d N : Nat)  (t0 : Int32) (t1 : Int32) (S : pm_S)  (r : (Int32 × pm_S)) (h : F_Bench_columnOfReading_27 N  t0 t1 S = some r) : pmE pG (pm_rel pG sp (d + 1)) mi_Bench_columnOfReading 27 [none, none, none] [.int t0, .int t1] S (some (.int r.1), r.2) := by
  unfold F_Bench_columnOfReading_27 at h
  obtain ⟨⟨v8, S7⟩, hv8, h⟩ := obind h
  try dsimp only at h
  refine pE_is (Bs := [.int t1, .int t0]) (st := []) rfl rfl rfl (Nat.le_of_ble_eq_true rfl) (Nat.le_of_ble_eq_true rfl) (f_Sheet_columnOf sp d N S t1 t0 _ hv8) ?_
  cases h
  exact pE_ret rfl rfl rfl
def F_Bench_columnOfReading (N : Nat) (S : pm_S) (a : Nat) (p0 : Nat) (p1 : Int32) : Option (Int32 × pm_S) :=
    if rcv S a 0 = true then
    ((oR S p0 4 9).bind fun oq1 => match oq1 with
    | none => none
    | some q1 =>
    (F_Ledger_at N S q1 p1 0).bind fun (v3, S2) =>
    (oR S2 p0 4 9).bind fun oq4 => match oq4 with
    | none => none
    | some q4 =>
    (F_Ledger_at N S2 q4 p1 1).bind fun (v6, S5) =>
    if v6 = 1 then
    F_Bench_columnOfReading_27 N 1 v3 S5
    else
    F_Bench_columnOfReading_27 N 0 v3 S5)
    else none
theorem g_Bench_columnOfReading {N : Nat} {S : pm_S} {a : Nat} {p0 : Nat} {p1 : Int32} {r : (Int32 × pm_S)} (h : F_Bench_columnOfReading N S a p0 p1 = some r) : rcv S a 0 = true := by
  unfold F_Bench_columnOfReading at h
  by_cases c : rcv S a 0 = true
  · exact c
  · rw [if_neg c] at h; cases h
set_option maxHeartbeats 4000000 in
set_option maxRecDepth 20000 in
theorem f_Bench_columnOfReading (sp : pm_I → List Value → pm_S → pm_O → Prop) (d N : Nat) (S : pm_S) (a : Nat) (p0 : Nat) (p1 : Int32) (r : (Int32 × pm_S)) (h : F_Bench_columnOfReading N S a p0 p1 = some r) : pm_rel pG sp (d + 2) mi_Bench_columnOfReading [.ref a, .ref p0, .int p1] S (some (.int r.1), r.2) := by
  have hg := g_Bench_columnOfReading h
  unfold F_Bench_columnOfReading at h
  rw [if_pos hg] at h
  refine pE_rel (d := d + 1) ?_
  show pmE pG _ mi_Bench_columnOfReading 0 [some (.ref a), some (.ref p0), some (.int p1)] [] S _
  refine pE_jump 1 (pc' := 1) (ls' := [some (.ref a), some (.ref p0), some (.int p1)]) (st' := [.ref p0]) (fun _ => rfl) ?_
  obtain ⟨oq1, hq1, h⟩ := obind h
  cases oq1 with
  | none => cases h
  | some q1 =>
    try dsimp only at h
    refine pE_gfS rfl rfl hq1 ?_
    refine pE_jump 2 (pc' := 6) (ls' := [some (.ref a), some (.ref p0), some (.int p1)]) (st' := [.int 0, .int p1, .ref q1]) (fun _ => rfl) ?_
    obtain ⟨⟨v3, S2⟩, hv3, h⟩ := obind h
    try dsimp only at h
    refine pE_iv (Bs := [.int p1, .int 0]) (st := []) 1 rfl (Or.inl ⟨rfl, rfl⟩) rfl rfl (Nat.le_of_ble_eq_true rfl) (Nat.le_of_ble_eq_true rfl) (g_Ledger_at hv3) (f_Ledger_at sp d N S q1 p1 0 _ hv3) ?_
    refine pE_jump 1 (pc' := 10) (ls' := [some (.ref a), some (.ref p0), some (.int p1)]) (st' := [.ref p0, .int v3]) (fun _ => rfl) ?_
    obtain ⟨oq4, hq4, h⟩ := obind h
    cases oq4 with
    | none => cases h
    | some q4 =>
      try dsimp only at h
      refine pE_gfS rfl rfl hq4 ?_
      refine pE_jump 2 (pc' := 15) (ls' := [some (.ref a), some (.ref p0), some (.int p1)]) (st' := [.int 1, .int p1, .ref q4, .int v3]) (fun _ => rfl) ?_
      obtain ⟨⟨v6, S5⟩, hv6, h⟩ := obind h
      try dsimp only at h
      refine pE_iv (Bs := [.int p1, .int 1]) (st := [.int v3]) 1 rfl (Or.inl ⟨rfl, rfl⟩) rfl rfl (Nat.le_of_ble_eq_true rfl) (Nat.le_of_ble_eq_true rfl) (g_Ledger_at hv6) (f_Ledger_at sp d N S2 q4 p1 1 _ hv6) ?_
      refine pE_jump 1 (pc' := 19) (ls' := [some (.ref a), some (.ref p0), some (.int p1)]) (st' := [.int 1, .int v6, .int v3]) (fun _ => rfl) ?_
      refine pE_br (¬ v6 = 1) rfl rfl (fun c9 => ?_) (fun c9 => ?_)
      · rw [if_neg c9] at h
        refine pE_jump 1 (pc' := 27) (ls' := [some (.ref a), some (.ref p0), some (.int p1)]) (st' := [.int 0, .int v3]) (fun _ => rfl) ?_
        refine pE_weak [none, none, none] trivial ?_
        exact f_Bench_columnOfReading_27 sp d N 0 v3 S5 _ h
      · have c9 := Decidable.not_not.mp c9
        rw [if_pos c9] at h
        refine pE_jump 2 (pc' := 27) (ls' := [some (.ref a), some (.ref p0), some (.int p1)]) (st' := [.int 1, .int v3]) (fun _ => rfl) ?_
        refine pE_weak [none, none, none] trivial ?_
        exact f_Bench_columnOfReading_27 sp d N 1 v3 S5 _ h
def F_Bench_columnsRead_32 (N : Nat)  (x2 : Int32) (S : pm_S) : Option (Int32 × pm_S) :=
    some (x2, S)
set_option maxHeartbeats 4000000 in
set_option maxRecDepth 20000 in
theorem f_Bench_columnsRead_32 (sp : pm_I → List Value → pm_S → pm_O → Prop) (d N : Nat)  (x2 : Int32) (S : pm_S)  (r : (Int32 × pm_S)) (h : F_Bench_columnsRead_32 N  x2 S = some r) : pmE pG (pm_rel pG sp (d + 2)) mi_Bench_columnsRead 32 [none, none, some (.int x2), none] [] S (some (.int r.1), r.2) := by
  unfold F_Bench_columnsRead_32 at h
  refine pE_jump 1 (pc' := 33) (ls' := [none, none, some (.int x2), none]) (st' := [.int x2]) (fun _ => rfl) ?_
  cases h
  exact pE_ret rfl rfl rfl
def B_Bench_columnsRead_4 (N : Nat)  (rec4 : Int32 → Int32 → pm_S → Option (Int32 × pm_S)) (x0 : Nat) (x1 : Nat) (x2 : Int32) (x3 : Int32) (S : pm_S) : Option (Int32 × pm_S) :=
    (oR S x1 4 9).bind fun oq1 => match oq1 with
    | none => none
    | some q1 =>
    (F_Ledger_size N S q1).bind fun (v3, S2) =>
    if v3 ≤ x3 then
    F_Bench_columnsRead_32 N x2 S2
    else
    ((F_Bench_columnOfReading N S2 x0 x1 x3).bind fun (v5, S4) =>
    rec4 (x2 ||| (1 <<< (v5 &&& 31))) (x3 + 1) S4)
def F_Bench_columnsRead_4 (N : Nat)  (x0 : Nat) (x1 : Nat) : Nat → Int32 → Int32 → pm_S → Option (Int32 × pm_S)
  | 0 => fun _ _ _ => none
  | n + 1 => fun x2 x3 S => B_Bench_columnsRead_4 N  (F_Bench_columnsRead_4 N  x0 x1 n) x0 x1 x2 x3 S
set_option maxHeartbeats 4000000 in
set_option maxRecDepth 20000 in
theorem f_Bench_columnsRead_4 (sp : pm_I → List Value → pm_S → pm_O → Prop) (d N : Nat)  (x0 : Nat) (x1 : Nat)  : ∀ (n : Nat) (x2 : Int32) (x3 : Int32) (S : pm_S) (r : (Int32 × pm_S)), F_Bench_columnsRead_4 N  x0 x1 n x2 x3 S = some r → pmE pG (pm_rel pG sp (d + 2)) mi_Bench_columnsRead 4 [some (.ref x0), some (.ref x1), some (.int x2), some (.int x3)] [] S (some (.int r.1), r.2) := by
  intro n
  induction n with
  | zero =>
    intro x2 x3 S r h
    cases h
  | succ n ih =>
    intro x2 x3 S r h
    replace h : B_Bench_columnsRead_4 N  (F_Bench_columnsRead_4 N  x0 x1 n) x0 x1 x2 x3 S = some r := h
    have hrec4 := ih
    generalize F_Bench_columnsRead_4 N  x0 x1 n = rec4 at h hrec4
    unfold B_Bench_columnsRead_4 at h
    refine pE_jump 2 (pc' := 6) (ls' := [some (.ref x0), some (.ref x1), some (.int x2), some (.int x3)]) (st' := [.ref x1, .int x3]) (fun _ => rfl) ?_
    obtain ⟨oq1, hq1, h⟩ := obind h
    cases oq1 with
    | none => cases h
    | some q1 =>
      try dsimp only at h
      refine pE_gfS rfl rfl hq1 ?_
      obtain ⟨⟨v3, S2⟩, hv3, h⟩ := obind h
      try dsimp only at h
      refine pE_iv (Bs := []) (st := [.int x3]) 1 rfl (Or.inl ⟨rfl, rfl⟩) rfl rfl (Nat.le_of_ble_eq_true rfl) (Nat.le_of_ble_eq_true rfl) (g_Ledger_size hv3) (f_Ledger_size sp (d + 1) N S q1 _ hv3) ?_
      refine pE_br (v3 ≤ x3) rfl rfl (fun c6 => ?_) (fun c6 => ?_)
      · rw [if_pos c6] at h
        refine pE_weak [none, none, some (.int x2), none] ⟨rfl, trivial⟩ ?_
        exact f_Bench_columnsRead_32 sp d N x2 S2 _ h
      · rw [if_neg c6] at h
        refine pE_jump 5 (pc' := 20) (ls' := [some (.ref x0), some (.ref x1), some (.int x2), some (.int x3)]) (st' := [.int x3, .ref x1, .ref x0, .int 1, .int x2]) (fun _ => rfl) ?_
        obtain ⟨⟨v5, S4⟩, hv5, h⟩ := obind h
        try dsimp only at h
        refine pE_iv (Bs := [.ref x1, .int x3]) (st := [.int 1, .int x2]) 1 rfl (Or.inl ⟨rfl, rfl⟩) rfl rfl (Nat.le_of_ble_eq_true rfl) (Nat.le_of_ble_eq_true rfl) (g_Bench_columnOfReading hv5) (f_Bench_columnOfReading sp d N S2 x0 x1 x3 _ hv5) ?_
        refine pE_jump 5 (pc' := 4) (ls' := [some (.ref x0), some (.ref x1), some (.int (x2 ||| (1 <<< (v5 &&& 31)))), some (.int (x3 + 1))]) (st' := []) (fun _ => rfl) ?_
        exact hrec4 (x2 ||| (1 <<< (v5 &&& 31))) (x3 + 1) S4 _ h
def F_Bench_columnsRead (N : Nat) (S : pm_S) (a : Nat) (p0 : Nat) : Option (Int32 × pm_S) :=
    if rcv S a 0 = true then
    (F_Bench_columnsRead_4 N a p0 N 0 0 S)
    else none
theorem g_Bench_columnsRead {N : Nat} {S : pm_S} {a : Nat} {p0 : Nat} {r : (Int32 × pm_S)} (h : F_Bench_columnsRead N S a p0 = some r) : rcv S a 0 = true := by
  unfold F_Bench_columnsRead at h
  by_cases c : rcv S a 0 = true
  · exact c
  · rw [if_neg c] at h; cases h
set_option maxHeartbeats 4000000 in
set_option maxRecDepth 20000 in
theorem f_Bench_columnsRead (sp : pm_I → List Value → pm_S → pm_O → Prop) (d N : Nat) (S : pm_S) (a : Nat) (p0 : Nat) (r : (Int32 × pm_S)) (h : F_Bench_columnsRead N S a p0 = some r) : pm_rel pG sp (d + 3) mi_Bench_columnsRead [.ref a, .ref p0] S (some (.int r.1), r.2) := by
  have hg := g_Bench_columnsRead h
  unfold F_Bench_columnsRead at h
  rw [if_pos hg] at h
  refine pE_rel (d := d + 2) ?_
  show pmE pG _ mi_Bench_columnsRead 0 [some (.ref a), some (.ref p0), none, none] [] S _
  refine pE_jump 4 (pc' := 4) (ls' := [some (.ref a), some (.ref p0), some (.int 0), some (.int 0)]) (st' := []) (fun _ => rfl) ?_
  exact f_Bench_columnsRead_4 sp d N a p0 N 0 0 S _ h
def F_Sheet_write_13 (N : Nat)   (S : pm_S) : Option pm_S :=
    some S
set_option maxHeartbeats 4000000 in
set_option maxRecDepth 20000 in
theorem f_Sheet_write_13 (sp : pm_I → List Value → pm_S → pm_O → Prop) (d N : Nat)   (S : pm_S)  (r : pm_S) (h : F_Sheet_write_13 N   S = some r) : pmE pG (pm_rel pG sp (d + 1)) mi_Sheet_write 13 [none, none, none, none] [] S (none, r) := by
  unfold F_Sheet_write_13 at h
  cases h
  exact pE_ret rfl rfl rfl
def F_Sheet_write_34 (N : Nat)  (x0 : Nat) (x1 : Int32) (x2 : Int32) (x3 : Int32) (S : pm_S) : Option pm_S :=
    (oR S x0 5 0).bind fun oq11 => match oq11 with
    | none => none
    | some q11 =>
    (aQ S q11 x1).bind fun oq12 => match oq12 with
    | none => none
    | some q12 =>
    (F_BP_setAt N S q12 x2 x3).bind fun S13 =>
    some S13
set_option maxHeartbeats 4000000 in
set_option maxRecDepth 20000 in
theorem f_Sheet_write_34 (sp : pm_I → List Value → pm_S → pm_O → Prop) (d N : Nat)  (x0 : Nat) (x1 : Int32) (x2 : Int32) (x3 : Int32) (S : pm_S)  (r : pm_S) (h : F_Sheet_write_34 N  x0 x1 x2 x3 S = some r) : pmE pG (pm_rel pG sp (d + 1)) mi_Sheet_write 34 [some (.ref x0), some (.int x1), some (.int x2), some (.int x3)] [] S (none, r) := by
  unfold F_Sheet_write_34 at h
  refine pE_jump 1 (pc' := 35) (ls' := [some (.ref x0), some (.int x1), some (.int x2), some (.int x3)]) (st' := [.ref x0]) (fun _ => rfl) ?_
  obtain ⟨oq11, hq11, h⟩ := obind h
  cases oq11 with
  | none => cases h
  | some q11 =>
    try dsimp only at h
    refine pE_gfS rfl rfl hq11 ?_
    refine pE_jump 1 (pc' := 39) (ls' := [some (.ref x0), some (.int x1), some (.int x2), some (.int x3)]) (st' := [.int x1, .ref q11]) (fun _ => rfl) ?_
    obtain ⟨oq12, hq12, h⟩ := obind h
    cases oq12 with
    | none => cases h
    | some q12 =>
      try dsimp only at h
      refine pE_aQS rfl hq12 ?_
      refine pE_jump 2 (pc' := 42) (ls' := [some (.ref x0), some (.int x1), some (.int x2), some (.int x3)]) (st' := [.int x3, .int x2, .ref q12]) (fun _ => rfl) ?_
      obtain ⟨S13, hS13, h⟩ := obind h
      refine pE_is (Bs := [.ref q12, .int x2, .int x3]) (st := []) rfl rfl rfl (Nat.le_of_ble_eq_true rfl) (Nat.le_of_ble_eq_true rfl) (f_BP_setAt sp d N S q12 x2 x3 _ hS13) ?_
      cases h
      exact pE_ret rfl rfl rfl
def F_Sheet_write (N : Nat) (S : pm_S) (a : Nat) (p0 : Int32) (p1 : Int32) (p2 : Int32) : Option pm_S :=
    if rcv S a 5 = true then
    (if p0 < 0 then
    F_Sheet_write_13 N S
    else
    ((oR S a 5 0).bind fun oq1 => match oq1 with
    | none => none
    | some q1 =>
    (aNS S q1).bind fun v2 =>
    if p0 < v2 then
    ((oR S a 5 0).bind fun oq3 => match oq3 with
    | none => none
    | some q3 =>
    (aQ S q3 p0).bind fun oq4 => match oq4 with
    | none => ((oR S a 5 0).bind fun oq5 => match oq5 with
    | none => ((nA S 0 1024).bind fun (q6, S7) =>
    none)
    | some q5 =>
    (nA S 0 1024).bind fun (q8, S9) =>
    (sQ S9 q5 p0 q8).bind fun S10 =>
    F_Sheet_write_34 N a p0 p1 p2 S10)
    | some q4 =>
    F_Sheet_write_34 N a p0 p1 p2 S)
    else
    F_Sheet_write_13 N S))
    else none
theorem g_Sheet_write {N : Nat} {S : pm_S} {a : Nat} {p0 : Int32} {p1 : Int32} {p2 : Int32} {r : pm_S} (h : F_Sheet_write N S a p0 p1 p2 = some r) : rcv S a 5 = true := by
  unfold F_Sheet_write at h
  by_cases c : rcv S a 5 = true
  · exact c
  · rw [if_neg c] at h; cases h
set_option maxHeartbeats 4000000 in
set_option maxRecDepth 20000 in
theorem f_Sheet_write (sp : pm_I → List Value → pm_S → pm_O → Prop) (d N : Nat) (S : pm_S) (a : Nat) (p0 : Int32) (p1 : Int32) (p2 : Int32) (r : pm_S) (h : F_Sheet_write N S a p0 p1 p2 = some r) : pm_rel pG sp (d + 2) mi_Sheet_write [.ref a, .int p0, .int p1, .int p2] S (none, r) := by
  have hg := g_Sheet_write h
  unfold F_Sheet_write at h
  rw [if_pos hg] at h
  refine pE_rel (d := d + 1) ?_
  show pmE pG _ mi_Sheet_write 0 [some (.ref a), some (.int p0), some (.int p1), some (.int p2)] [] S _
  refine pE_jump 1 (pc' := 1) (ls' := [some (.ref a), some (.int p0), some (.int p1), some (.int p2)]) (st' := [.int p0]) (fun _ => rfl) ?_
  refine pE_br (p0 < 0) rfl rfl (fun c15 => ?_) (fun c15 => ?_)
  · rw [if_pos c15] at h
    refine pE_weak [none, none, none, none] trivial ?_
    exact f_Sheet_write_13 sp d N S _ h
  · rw [if_neg c15] at h
    refine pE_jump 2 (pc' := 6) (ls' := [some (.ref a), some (.int p0), some (.int p1), some (.int p2)]) (st' := [.ref a, .int p0]) (fun _ => rfl) ?_
    obtain ⟨oq1, hq1, h⟩ := obind h
    cases oq1 with
    | none => cases h
    | some q1 =>
      try dsimp only at h
      refine pE_gfS rfl rfl hq1 ?_
      obtain ⟨v2, hv2, h⟩ := obind h
      refine pE_aN rfl hv2 ?_
      refine pE_br (p0 < v2) rfl rfl (fun c14 => ?_) (fun c14 => ?_)
      · rw [if_pos c14] at h
        refine pE_jump 1 (pc' := 15) (ls' := [some (.ref a), some (.int p0), some (.int p1), some (.int p2)]) (st' := [.ref a]) (fun _ => rfl) ?_
        obtain ⟨oq3, hq3, h⟩ := obind h
        cases oq3 with
        | none => cases h
        | some q3 =>
          try dsimp only at h
          refine pE_gfS rfl rfl hq3 ?_
          refine pE_jump 1 (pc' := 19) (ls' := [some (.ref a), some (.int p0), some (.int p1), some (.int p2)]) (st' := [.int p0, .ref q3]) (fun _ => rfl) ?_
          obtain ⟨oq4, hq4, h⟩ := obind h
          cases oq4 with
          | none =>
            try dsimp only at h
            refine pE_aQN rfl hq4 ?_
            refine pE_jump 2 (pc' := 24) (ls' := [some (.ref a), some (.int p0), some (.int p1), some (.int p2)]) (st' := [.ref a]) (fun _ => rfl) ?_
            obtain ⟨oq5, hq5, h⟩ := obind h
            cases oq5 with
            | none =>
              try dsimp only at h
              refine pE_gfN rfl rfl hq5 ?_
              refine pE_jump 2 (pc' := 31) (ls' := [some (.ref a), some (.int p0), some (.int p1), some (.int p2)]) (st' := [.int 1024, .int p0, .null]) (fun _ => rfl) ?_
              obtain ⟨⟨q6, S7⟩, hq6, h⟩ := obind h
              refine pE_nA rfl rfl hq6 ?_
              try dsimp only at h
              cases h
            | some q5 =>
              try dsimp only at h
              refine pE_gfS rfl rfl hq5 ?_
              refine pE_jump 2 (pc' := 31) (ls' := [some (.ref a), some (.int p0), some (.int p1), some (.int p2)]) (st' := [.int 1024, .int p0, .ref q5]) (fun _ => rfl) ?_
              obtain ⟨⟨q8, S9⟩, hq8, h⟩ := obind h
              refine pE_nA rfl rfl hq8 ?_
              try dsimp only at h
              obtain ⟨S10, hS10, h⟩ := obind h
              refine pE_sQ rfl hS10 ?_
              exact f_Sheet_write_34 sp d N a p0 p1 p2 S10 _ h
          | some q4 =>
            try dsimp only at h
            refine pE_aQS rfl hq4 ?_
            refine pE_jump 1 (pc' := 34) (ls' := [some (.ref a), some (.int p0), some (.int p1), some (.int p2)]) (st' := []) (fun _ => rfl) ?_
            exact f_Sheet_write_34 sp d N a p0 p1 p2 S _ h
      · rw [if_neg c14] at h
        refine pE_weak [none, none, none, none] trivial ?_
        exact f_Sheet_write_13 sp d N S _ h
