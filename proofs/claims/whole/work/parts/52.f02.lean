def F_Ledger_add (N : Nat) (S : pm_S) (a : Nat) (p0 : Int32) (p1 : Int32) (p2 : Int32) (p3 : Int32) (p4 : Int32) : Option (Int32 × pm_S) :=
    if rcv S a 2 = true then
    ((oI S a 2 2).bind fun v1 =>
    (oI S a 2 1).bind fun v2 =>
    if v1 < v2 then
    ((oI S a 2 2).bind fun v3 =>
    (oR S a 2 0).bind fun oq4 => match oq4 with
    | none => none
    | some q4 =>
    (F_BP_setAt N S q4 (5 * v3) p0).bind fun S5 =>
    (oR S5 a 2 0).bind fun oq6 => match oq6 with
    | none => none
    | some q6 =>
    (F_BP_setAt N S5 q6 ((5 * v3) + 1) p1).bind fun S7 =>
    (oR S7 a 2 0).bind fun oq8 => match oq8 with
    | none => none
    | some q8 =>
    (F_BP_setAt N S7 q8 ((5 * v3) + 2) p2).bind fun S9 =>
    (oR S9 a 2 0).bind fun oq10 => match oq10 with
    | none => none
    | some q10 =>
    (F_BP_setAt N S9 q10 ((5 * v3) + 3) p3).bind fun S11 =>
    (oR S11 a 2 0).bind fun oq12 => match oq12 with
    | none => none
    | some q12 =>
    (F_BP_setAt N S11 q12 ((5 * v3) + 4) p4).bind fun S13 =>
    (oI S13 a 2 2).bind fun v14 =>
    (wF S13 a 2 2 .int (.int (v14 + 1))).bind fun S15 =>
    (oI S15 a 2 2).bind fun v16 =>
    some (v16 - 1, S15))
    else
    some ((-1), S))
    else none
theorem g_Ledger_add {N : Nat} {S : pm_S} {a : Nat} {p0 : Int32} {p1 : Int32} {p2 : Int32} {p3 : Int32} {p4 : Int32} {r : (Int32 × pm_S)} (h : F_Ledger_add N S a p0 p1 p2 p3 p4 = some r) : rcv S a 2 = true := by
  unfold F_Ledger_add at h
  by_cases c : rcv S a 2 = true
  · exact c
  · rw [if_neg c] at h; cases h
set_option maxHeartbeats 4000000 in
set_option maxRecDepth 20000 in
theorem f_Ledger_add (sp : pm_I → List Value → pm_S → pm_O → Prop) (d N : Nat) (S : pm_S) (a : Nat) (p0 : Int32) (p1 : Int32) (p2 : Int32) (p3 : Int32) (p4 : Int32) (r : (Int32 × pm_S)) (h : F_Ledger_add N S a p0 p1 p2 p3 p4 = some r) : pm_rel pG sp (d + 2) mi_Ledger_add [.ref a, .int p0, .int p1, .int p2, .int p3, .int p4] S (some (.int r.1), r.2) := by
  have hg := g_Ledger_add h
  unfold F_Ledger_add at h
  rw [if_pos hg] at h
  refine pE_rel (d := d + 1) ?_
  show pmE pG _ mi_Ledger_add 0 [some (.ref a), some (.int p0), some (.int p1), some (.int p2), some (.int p3), some (.int p4), none] [] S _
  refine pE_jump 1 (pc' := 1) (ls' := [some (.ref a), some (.int p0), some (.int p1), some (.int p2), some (.int p3), some (.int p4), none]) (st' := [.ref a]) (fun _ => rfl) ?_
  obtain ⟨v1, hv1, h⟩ := obind h
  refine pE_gfI rfl rfl hv1 ?_
  refine pE_jump 1 (pc' := 5) (ls' := [some (.ref a), some (.int p0), some (.int p1), some (.int p2), some (.int p3), some (.int p4), none]) (st' := [.ref a, .int v1]) (fun _ => rfl) ?_
  obtain ⟨v2, hv2, h⟩ := obind h
  refine pE_gfI rfl rfl hv2 ?_
  refine pE_br (v1 < v2) rfl rfl (fun c17 => ?_) (fun c17 => ?_)
  · rw [if_pos c17] at h
    refine pE_jump 2 (pc' := 15) (ls' := [some (.ref a), some (.int p0), some (.int p1), some (.int p2), some (.int p3), some (.int p4), none]) (st' := [.ref a, .int 5]) (fun _ => rfl) ?_
    obtain ⟨v3, hv3, h⟩ := obind h
    refine pE_gfI rfl rfl hv3 ?_
    refine pE_jump 3 (pc' := 22) (ls' := [some (.ref a), some (.int p0), some (.int p1), some (.int p2), some (.int p3), some (.int p4), some (.int (5 * v3))]) (st' := [.ref a]) (fun _ => rfl) ?_
    obtain ⟨oq4, hq4, h⟩ := obind h
    cases oq4 with
    | none => cases h
    | some q4 =>
      try dsimp only at h
      refine pE_gfS rfl rfl hq4 ?_
      refine pE_jump 2 (pc' := 28) (ls' := [some (.ref a), some (.int p0), some (.int p1), some (.int p2), some (.int p3), some (.int p4), some (.int (5 * v3))]) (st' := [.int p0, .int (5 * v3), .ref q4]) (fun _ => rfl) ?_
      obtain ⟨S5, hS5, h⟩ := obind h
      refine pE_is (Bs := [.ref q4, .int (5 * v3), .int p0]) (st := []) rfl rfl rfl (Nat.le_of_ble_eq_true rfl) (Nat.le_of_ble_eq_true rfl) (f_BP_setAt sp d N S q4 (5 * v3) p0 _ hS5) ?_
      refine pE_jump 1 (pc' := 32) (ls' := [some (.ref a), some (.int p0), some (.int p1), some (.int p2), some (.int p3), some (.int p4), some (.int (5 * v3))]) (st' := [.ref a]) (fun _ => rfl) ?_
      obtain ⟨oq6, hq6, h⟩ := obind h
      cases oq6 with
      | none => cases h
      | some q6 =>
        try dsimp only at h
        refine pE_gfS rfl rfl hq6 ?_
        refine pE_jump 4 (pc' := 40) (ls' := [some (.ref a), some (.int p0), some (.int p1), some (.int p2), some (.int p3), some (.int p4), some (.int (5 * v3))]) (st' := [.int p1, .int ((5 * v3) + 1), .ref q6]) (fun _ => rfl) ?_
        obtain ⟨S7, hS7, h⟩ := obind h
        refine pE_is (Bs := [.ref q6, .int ((5 * v3) + 1), .int p1]) (st := []) rfl rfl rfl (Nat.le_of_ble_eq_true rfl) (Nat.le_of_ble_eq_true rfl) (f_BP_setAt sp d N S5 q6 ((5 * v3) + 1) p1 _ hS7) ?_
        refine pE_jump 1 (pc' := 44) (ls' := [some (.ref a), some (.int p0), some (.int p1), some (.int p2), some (.int p3), some (.int p4), some (.int (5 * v3))]) (st' := [.ref a]) (fun _ => rfl) ?_
        obtain ⟨oq8, hq8, h⟩ := obind h
        cases oq8 with
        | none => cases h
        | some q8 =>
          try dsimp only at h
          refine pE_gfS rfl rfl hq8 ?_
          refine pE_jump 4 (pc' := 52) (ls' := [some (.ref a), some (.int p0), some (.int p1), some (.int p2), some (.int p3), some (.int p4), some (.int (5 * v3))]) (st' := [.int p2, .int ((5 * v3) + 2), .ref q8]) (fun _ => rfl) ?_
          obtain ⟨S9, hS9, h⟩ := obind h
          refine pE_is (Bs := [.ref q8, .int ((5 * v3) + 2), .int p2]) (st := []) rfl rfl rfl (Nat.le_of_ble_eq_true rfl) (Nat.le_of_ble_eq_true rfl) (f_BP_setAt sp d N S7 q8 ((5 * v3) + 2) p2 _ hS9) ?_
          refine pE_jump 1 (pc' := 56) (ls' := [some (.ref a), some (.int p0), some (.int p1), some (.int p2), some (.int p3), some (.int p4), some (.int (5 * v3))]) (st' := [.ref a]) (fun _ => rfl) ?_
          obtain ⟨oq10, hq10, h⟩ := obind h
          cases oq10 with
          | none => cases h
          | some q10 =>
            try dsimp only at h
            refine pE_gfS rfl rfl hq10 ?_
            refine pE_jump 4 (pc' := 65) (ls' := [some (.ref a), some (.int p0), some (.int p1), some (.int p2), some (.int p3), some (.int p4), some (.int (5 * v3))]) (st' := [.int p3, .int ((5 * v3) + 3), .ref q10]) (fun _ => rfl) ?_
            obtain ⟨S11, hS11, h⟩ := obind h
            refine pE_is (Bs := [.ref q10, .int ((5 * v3) + 3), .int p3]) (st := []) rfl rfl rfl (Nat.le_of_ble_eq_true rfl) (Nat.le_of_ble_eq_true rfl) (f_BP_setAt sp d N S9 q10 ((5 * v3) + 3) p3 _ hS11) ?_
            refine pE_jump 1 (pc' := 69) (ls' := [some (.ref a), some (.int p0), some (.int p1), some (.int p2), some (.int p3), some (.int p4), some (.int (5 * v3))]) (st' := [.ref a]) (fun _ => rfl) ?_
            obtain ⟨oq12, hq12, h⟩ := obind h
            cases oq12 with
            | none => cases h
            | some q12 =>
              try dsimp only at h
              refine pE_gfS rfl rfl hq12 ?_
              refine pE_jump 4 (pc' := 78) (ls' := [some (.ref a), some (.int p0), some (.int p1), some (.int p2), some (.int p3), some (.int p4), some (.int (5 * v3))]) (st' := [.int p4, .int ((5 * v3) + 4), .ref q12]) (fun _ => rfl) ?_
              obtain ⟨S13, hS13, h⟩ := obind h
              refine pE_is (Bs := [.ref q12, .int ((5 * v3) + 4), .int p4]) (st := []) rfl rfl rfl (Nat.le_of_ble_eq_true rfl) (Nat.le_of_ble_eq_true rfl) (f_BP_setAt sp d N S11 q12 ((5 * v3) + 4) p4 _ hS13) ?_
              refine pE_jump 2 (pc' := 83) (ls' := [some (.ref a), some (.int p0), some (.int p1), some (.int p2), some (.int p3), some (.int p4), some (.int (5 * v3))]) (st' := [.ref a, .ref a]) (fun _ => rfl) ?_
              obtain ⟨v14, hv14, h⟩ := obind h
              refine pE_gfI rfl rfl hv14 ?_
              refine pE_jump 2 (pc' := 88) (ls' := [some (.ref a), some (.int p0), some (.int p1), some (.int p2), some (.int p3), some (.int p4), some (.int (5 * v3))]) (st' := [.int (v14 + 1), .ref a]) (fun _ => rfl) ?_
              obtain ⟨S15, hS15, h⟩ := obind h
              refine pE_pf rfl rfl rfl hS15 ?_
              refine pE_jump 1 (pc' := 92) (ls' := [some (.ref a), some (.int p0), some (.int p1), some (.int p2), some (.int p3), some (.int p4), some (.int (5 * v3))]) (st' := [.ref a]) (fun _ => rfl) ?_
              obtain ⟨v16, hv16, h⟩ := obind h
              refine pE_gfI rfl rfl hv16 ?_
              refine pE_jump 2 (pc' := 97) (ls' := [some (.ref a), some (.int p0), some (.int p1), some (.int p2), some (.int p3), some (.int p4), some (.int (5 * v3))]) (st' := [.int (v16 - 1)]) (fun _ => rfl) ?_
              cases h
              exact pE_ret rfl rfl rfl
  · rw [if_neg c17] at h
    refine pE_jump 1 (pc' := 12) (ls' := [some (.ref a), some (.int p0), some (.int p1), some (.int p2), some (.int p3), some (.int p4), none]) (st' := [.int (-1)]) (fun _ => rfl) ?_
    cases h
    exact pE_ret rfl rfl rfl
def F_Plan_addCable (N : Nat) (S : pm_S) (a : Nat) (p0 : Int32) (p1 : Int32) (p2 : Int32) (p3 : Int32) : Option pm_S :=
    if rcv S a 4 = true then
    ((oR S a 4 2).bind fun oq1 => match oq1 with
    | none => none
    | some q1 =>
    (oR S a 4 1).bind fun oq5 => match oq5 with
    | none => none
    | some q5 =>
    (F_Ledger_add N S q5 p0 p1 p2 p3 0).bind fun (v7, S6) =>
    (F_BP_setAt N S6 q1 p1 v7).bind fun S8 =>
    some S8)
    else none
theorem g_Plan_addCable {N : Nat} {S : pm_S} {a : Nat} {p0 : Int32} {p1 : Int32} {p2 : Int32} {p3 : Int32} {r : pm_S} (h : F_Plan_addCable N S a p0 p1 p2 p3 = some r) : rcv S a 4 = true := by
  unfold F_Plan_addCable at h
  by_cases c : rcv S a 4 = true
  · exact c
  · rw [if_neg c] at h; cases h
set_option maxHeartbeats 4000000 in
set_option maxRecDepth 20000 in
theorem f_Plan_addCable (sp : pm_I → List Value → pm_S → pm_O → Prop) (d N : Nat) (S : pm_S) (a : Nat) (p0 : Int32) (p1 : Int32) (p2 : Int32) (p3 : Int32) (r : pm_S) (h : F_Plan_addCable N S a p0 p1 p2 p3 = some r) : pm_rel pG sp (d + 3) mi_Plan_addCable [.ref a, .int p0, .int p1, .int p2, .int p3] S (none, r) := by
  have hg := g_Plan_addCable h
  unfold F_Plan_addCable at h
  rw [if_pos hg] at h
  refine pE_rel (d := d + 2) ?_
  show pmE pG _ mi_Plan_addCable 0 [some (.ref a), some (.int p0), some (.int p1), some (.int p2), some (.int p3)] [] S _
  refine pE_jump 1 (pc' := 1) (ls' := [some (.ref a), some (.int p0), some (.int p1), some (.int p2), some (.int p3)]) (st' := [.ref a]) (fun _ => rfl) ?_
  obtain ⟨oq1, hq1, h⟩ := obind h
  cases oq1 with
  | none => cases h
  | some q1 =>
    try dsimp only at h
    refine pE_gfS rfl rfl hq1 ?_
    refine pE_jump 2 (pc' := 6) (ls' := [some (.ref a), some (.int p0), some (.int p1), some (.int p2), some (.int p3)]) (st' := [.ref a, .int p1, .ref q1]) (fun _ => rfl) ?_
    obtain ⟨oq5, hq5, h⟩ := obind h
    cases oq5 with
    | none => cases h
    | some q5 =>
      try dsimp only at h
      refine pE_gfS rfl rfl hq5 ?_
      refine pE_jump 5 (pc' := 15) (ls' := [some (.ref a), some (.int p0), some (.int p1), some (.int p2), some (.int p3)]) (st' := [.int 0, .int p3, .int p2, .int p1, .int p0, .ref q5, .int p1, .ref q1]) (fun _ => rfl) ?_
      obtain ⟨⟨v7, S6⟩, hv7, h⟩ := obind h
      try dsimp only at h
      refine pE_iv (Bs := [.int p0, .int p1, .int p2, .int p3, .int 0]) (st := [.int p1, .ref q1]) 1 rfl (Or.inl ⟨rfl, rfl⟩) rfl rfl (Nat.le_of_ble_eq_true rfl) (Nat.le_of_ble_eq_true rfl) (g_Ledger_add hv7) (f_Ledger_add sp d N S q5 p0 p1 p2 p3 0 _ hv7) ?_
      obtain ⟨S8, hS8, h⟩ := obind h
      refine pE_is (Bs := [.ref q1, .int p1, .int v7]) (st := []) rfl rfl rfl (Nat.le_of_ble_eq_true rfl) (Nat.le_of_ble_eq_true rfl) (f_BP_setAt sp (d + 1) N S6 q1 p1 v7 _ hS8) ?_
      cases h
      exact pE_ret rfl rfl rfl
def F_Reader_readCable_84 (N : Nat)   (S : pm_S) : Option pm_S :=
    some S
set_option maxHeartbeats 4000000 in
set_option maxRecDepth 20000 in
theorem f_Reader_readCable_84 (sp : pm_I → List Value → pm_S → pm_O → Prop) (d N : Nat)   (S : pm_S)  (r : pm_S) (h : F_Reader_readCable_84 N   S = some r) : pmE pG (pm_rel pG sp (d + 4)) mi_Reader_readCable 84 [none, none, none, none, none, none] [] S (none, r) := by
  unfold F_Reader_readCable_84 at h
  cases h
  exact pE_ret rfl rfl rfl
def F_Reader_readCable_48 (N : Nat)  (x0 : Nat) (x1 : Nat) (x2 : Int32) (x3 : Int32) (S : pm_S) : Option pm_S :=
    (F_Reader_number N S x0 1 6).bind fun (v10, S9) =>
    (F_Reader_number N S9 x0 1 99).bind fun (v12, S11) =>
    (oI S11 x0 7 2).bind fun v13 =>
    if v13 = (-1) then
    ((F_Plan_addCable N S11 x1 x2 x3 v10 v12).bind fun S14 =>
    F_Reader_readCable_84 N S14)
    else
    F_Reader_readCable_84 N S11
set_option maxHeartbeats 4000000 in
set_option maxRecDepth 20000 in
theorem f_Reader_readCable_48 (sp : pm_I → List Value → pm_S → pm_O → Prop) (d N : Nat)  (x0 : Nat) (x1 : Nat) (x2 : Int32) (x3 : Int32) (S : pm_S)  (r : pm_S) (h : F_Reader_readCable_48 N  x0 x1 x2 x3 S = some r) : pmE pG (pm_rel pG sp (d + 4)) mi_Reader_readCable 48 [some (.ref x0), some (.ref x1), some (.int x2), some (.int x3), none, none] [] S (none, r) := by
  unfold F_Reader_readCable_48 at h
  refine pE_jump 3 (pc' := 52) (ls' := [some (.ref x0), some (.ref x1), some (.int x2), some (.int x3), none, none]) (st' := [.int 6, .int 1, .ref x0]) (fun _ => rfl) ?_
  obtain ⟨⟨v10, S9⟩, hv10, h⟩ := obind h
  try dsimp only at h
  refine pE_iv (Bs := [.int 1, .int 6]) (st := []) 1 rfl (Or.inl ⟨rfl, rfl⟩) rfl rfl (Nat.le_of_ble_eq_true rfl) (Nat.le_of_ble_eq_true rfl) (g_Reader_number hv10) (f_Reader_number sp d N S x0 1 6 _ hv10) ?_
  refine pE_jump 4 (pc' := 61) (ls' := [some (.ref x0), some (.ref x1), some (.int x2), some (.int x3), some (.int v10), none]) (st' := [.int 99, .int 1, .ref x0]) (fun _ => rfl) ?_
  obtain ⟨⟨v12, S11⟩, hv12, h⟩ := obind h
  try dsimp only at h
  refine pE_iv (Bs := [.int 1, .int 99]) (st := []) 1 rfl (Or.inl ⟨rfl, rfl⟩) rfl rfl (Nat.le_of_ble_eq_true rfl) (Nat.le_of_ble_eq_true rfl) (g_Reader_number hv12) (f_Reader_number sp d N S9 x0 1 99 _ hv12) ?_
  refine pE_jump 2 (pc' := 67) (ls' := [some (.ref x0), some (.ref x1), some (.int x2), some (.int x3), some (.int v10), some (.int v12)]) (st' := [.ref x0]) (fun _ => rfl) ?_
  obtain ⟨v13, hv13, h⟩ := obind h
  refine pE_gfI rfl rfl hv13 ?_
  refine pE_jump 1 (pc' := 71) (ls' := [some (.ref x0), some (.ref x1), some (.int x2), some (.int x3), some (.int v10), some (.int v12)]) (st' := [.int (-1), .int v13]) (fun _ => rfl) ?_
  refine pE_br (¬ v13 = (-1)) rfl rfl (fun c15 => ?_) (fun c15 => ?_)
  · rw [if_neg c15] at h
    refine pE_weak [none, none, none, none, none, none] trivial ?_
    exact f_Reader_readCable_84 sp d N S11 _ h
  · have c15 := Decidable.not_not.mp c15
    rw [if_pos c15] at h
    refine pE_jump 5 (pc' := 81) (ls' := [some (.ref x0), some (.ref x1), some (.int x2), some (.int x3), some (.int v10), some (.int v12)]) (st' := [.int v12, .int v10, .int x3, .int x2, .ref x1]) (fun _ => rfl) ?_
    obtain ⟨S14, hS14, h⟩ := obind h
    refine pE_iv (Bs := [.int x2, .int x3, .int v10, .int v12]) (st := []) 1 rfl (Or.inl ⟨rfl, rfl⟩) rfl rfl (Nat.le_of_ble_eq_true rfl) (Nat.le_of_ble_eq_true rfl) (g_Plan_addCable hS14) (f_Plan_addCable sp (d + 1) N S11 x1 x2 x3 v10 v12 _ hS14) ?_
    refine pE_weak [none, none, none, none, none, none] trivial ?_
    exact f_Reader_readCable_84 sp d N S14 _ h
def F_Reader_readCable_38 (N : Nat)  (x0 : Nat) (x1 : Nat) (x2 : Int32) (x3 : Int32) (S : pm_S) : Option pm_S :=
    (oI S x0 7 1).bind fun v7 =>
    (F_Reader_fail N S x0 (v7 - 1)).bind fun S8 =>
    F_Reader_readCable_48 N x0 x1 x2 x3 S8
set_option maxHeartbeats 4000000 in
set_option maxRecDepth 20000 in
theorem f_Reader_readCable_38 (sp : pm_I → List Value → pm_S → pm_O → Prop) (d N : Nat)  (x0 : Nat) (x1 : Nat) (x2 : Int32) (x3 : Int32) (S : pm_S)  (r : pm_S) (h : F_Reader_readCable_38 N  x0 x1 x2 x3 S = some r) : pmE pG (pm_rel pG sp (d + 4)) mi_Reader_readCable 38 [some (.ref x0), some (.ref x1), some (.int x2), some (.int x3), none, none] [] S (none, r) := by
  unfold F_Reader_readCable_38 at h
  refine pE_jump 2 (pc' := 40) (ls' := [some (.ref x0), some (.ref x1), some (.int x2), some (.int x3), none, none]) (st' := [.ref x0, .ref x0]) (fun _ => rfl) ?_
  obtain ⟨v7, hv7, h⟩ := obind h
  refine pE_gfI rfl rfl hv7 ?_
  refine pE_jump 2 (pc' := 45) (ls' := [some (.ref x0), some (.ref x1), some (.int x2), some (.int x3), none, none]) (st' := [.int (v7 - 1), .ref x0]) (fun _ => rfl) ?_
  obtain ⟨S8, hS8, h⟩ := obind h
  refine pE_iv (Bs := [.int (v7 - 1)]) (st := []) 1 rfl (Or.inl ⟨rfl, rfl⟩) rfl rfl (Nat.le_of_ble_eq_true rfl) (Nat.le_of_ble_eq_true rfl) (g_Reader_fail hS8) (f_Reader_fail sp (d + 3) N S x0 (v7 - 1) _ hS8) ?_
  exact f_Reader_readCable_48 sp d N x0 x1 x2 x3 S8 _ h
def F_Reader_readCable (N : Nat) (S : pm_S) (a : Nat) (p0 : Nat) : Option pm_S :=
    if rcv S a 7 = true then
    ((oI S p0 4 0).bind fun v1 =>
    (F_Reader_number N S a 0 (v1 - 1)).bind fun (v3, S2) =>
    (oI S2 p0 4 0).bind fun v4 =>
    (F_Reader_number N S2 a 0 (v4 - 1)).bind fun (v6, S5) =>
    if v6 ≤ v3 then
    F_Reader_readCable_38 N a p0 v3 v6 S5
    else
    ((F_Plan_cableTo N S5 p0 v6).bind fun (v17, S16) =>
    if v17 = (-1) then
    F_Reader_readCable_48 N a p0 v3 v6 S16
    else
    F_Reader_readCable_38 N a p0 v3 v6 S16))
    else none
theorem g_Reader_readCable {N : Nat} {S : pm_S} {a : Nat} {p0 : Nat} {r : pm_S} (h : F_Reader_readCable N S a p0 = some r) : rcv S a 7 = true := by
  unfold F_Reader_readCable at h
  by_cases c : rcv S a 7 = true
  · exact c
  · rw [if_neg c] at h; cases h
set_option maxHeartbeats 4000000 in
set_option maxRecDepth 20000 in
theorem f_Reader_readCable (sp : pm_I → List Value → pm_S → pm_O → Prop) (d N : Nat) (S : pm_S) (a : Nat) (p0 : Nat) (r : pm_S) (h : F_Reader_readCable N S a p0 = some r) : pm_rel pG sp (d + 5) mi_Reader_readCable [.ref a, .ref p0] S (none, r) := by
  have hg := g_Reader_readCable h
  unfold F_Reader_readCable at h
  rw [if_pos hg] at h
  refine pE_rel (d := d + 4) ?_
  show pmE pG _ mi_Reader_readCable 0 [some (.ref a), some (.ref p0), none, none, none, none] [] S _
  refine pE_jump 3 (pc' := 3) (ls' := [some (.ref a), some (.ref p0), none, none, none, none]) (st' := [.ref p0, .int 0, .ref a]) (fun _ => rfl) ?_
  obtain ⟨v1, hv1, h⟩ := obind h
  refine pE_gfI rfl rfl hv1 ?_
  refine pE_jump 2 (pc' := 8) (ls' := [some (.ref a), some (.ref p0), none, none, none, none]) (st' := [.int (v1 - 1), .int 0, .ref a]) (fun _ => rfl) ?_
  obtain ⟨⟨v3, S2⟩, hv3, h⟩ := obind h
  try dsimp only at h
  refine pE_iv (Bs := [.int 0, .int (v1 - 1)]) (st := []) 1 rfl (Or.inl ⟨rfl, rfl⟩) rfl rfl (Nat.le_of_ble_eq_true rfl) (Nat.le_of_ble_eq_true rfl) (g_Reader_number hv3) (f_Reader_number sp d N S a 0 (v1 - 1) _ hv3) ?_
  refine pE_jump 4 (pc' := 15) (ls' := [some (.ref a), some (.ref p0), some (.int v3), none, none, none]) (st' := [.ref p0, .int 0, .ref a]) (fun _ => rfl) ?_
  obtain ⟨v4, hv4, h⟩ := obind h
  refine pE_gfI rfl rfl hv4 ?_
  refine pE_jump 2 (pc' := 20) (ls' := [some (.ref a), some (.ref p0), some (.int v3), none, none, none]) (st' := [.int (v4 - 1), .int 0, .ref a]) (fun _ => rfl) ?_
  obtain ⟨⟨v6, S5⟩, hv6, h⟩ := obind h
  try dsimp only at h
  refine pE_iv (Bs := [.int 0, .int (v4 - 1)]) (st := []) 1 rfl (Or.inl ⟨rfl, rfl⟩) rfl rfl (Nat.le_of_ble_eq_true rfl) (Nat.le_of_ble_eq_true rfl) (g_Reader_number hv6) (f_Reader_number sp d N S2 a 0 (v4 - 1) _ hv6) ?_
  refine pE_jump 3 (pc' := 26) (ls' := [some (.ref a), some (.ref p0), some (.int v3), some (.int v6), none, none]) (st' := [.int v3, .int v6]) (fun _ => rfl) ?_
  refine pE_br (v6 ≤ v3) rfl rfl (fun c19 => ?_) (fun c19 => ?_)
  · rw [if_pos c19] at h
    exact f_Reader_readCable_38 sp d N a p0 v3 v6 S5 _ h
  · rw [if_neg c19] at h
    refine pE_jump 2 (pc' := 31) (ls' := [some (.ref a), some (.ref p0), some (.int v3), some (.int v6), none, none]) (st' := [.int v6, .ref p0]) (fun _ => rfl) ?_
    obtain ⟨⟨v17, S16⟩, hv17, h⟩ := obind h
    try dsimp only at h
    refine pE_iv (Bs := [.int v6]) (st := []) 1 rfl (Or.inl ⟨rfl, rfl⟩) rfl rfl (Nat.le_of_ble_eq_true rfl) (Nat.le_of_ble_eq_true rfl) (g_Plan_cableTo hv17) (f_Plan_cableTo sp (d + 2) N S5 p0 v6 _ hv17) ?_
    refine pE_jump 1 (pc' := 35) (ls' := [some (.ref a), some (.ref p0), some (.int v3), some (.int v6), none, none]) (st' := [.int (-1), .int v17]) (fun _ => rfl) ?_
    refine pE_br (v17 = (-1)) rfl rfl (fun c18 => ?_) (fun c18 => ?_)
    · rw [if_pos c18] at h
      exact f_Reader_readCable_48 sp d N a p0 v3 v6 S16 _ h
    · rw [if_neg c18] at h
      exact f_Reader_readCable_38 sp d N a p0 v3 v6 S16 _ h
def F_Ledger_size (N : Nat) (S : pm_S) (a : Nat) : Option (Int32 × pm_S) :=
    if rcv S a 2 = true then
    ((oI S a 2 2).bind fun v1 =>
    some (v1, S))
    else none
theorem g_Ledger_size {N : Nat} {S : pm_S} {a : Nat} {r : (Int32 × pm_S)} (h : F_Ledger_size N S a = some r) : rcv S a 2 = true := by
  unfold F_Ledger_size at h
  by_cases c : rcv S a 2 = true
  · exact c
  · rw [if_neg c] at h; cases h
set_option maxHeartbeats 4000000 in
set_option maxRecDepth 20000 in
theorem f_Ledger_size (sp : pm_I → List Value → pm_S → pm_O → Prop) (d N : Nat) (S : pm_S) (a : Nat) (r : (Int32 × pm_S)) (h : F_Ledger_size N S a = some r) : pm_rel pG sp (d + 1) mi_Ledger_size [.ref a] S (some (.int r.1), r.2) := by
  have hg := g_Ledger_size h
  unfold F_Ledger_size at h
  rw [if_pos hg] at h
  refine pE_rel (d := d + 0) ?_
  show pmE pG _ mi_Ledger_size 0 [some (.ref a)] [] S _
  refine pE_jump 1 (pc' := 1) (ls' := [some (.ref a)]) (st' := [.ref a]) (fun _ => rfl) ?_
  obtain ⟨v1, hv1, h⟩ := obind h
  refine pE_gfI rfl rfl hv1 ?_
  cases h
  exact pE_ret rfl rfl rfl
def F_Ledger_at_62 (N : Nat)  (t0 : Int32) (S : pm_S) : Option (Int32 × pm_S) :=
    some (t0, S)
set_option maxHeartbeats 4000000 in
set_option maxRecDepth 20000 in
theorem f_Ledger_at_62 (sp : pm_I → List Value → pm_S → pm_O → Prop) (d N : Nat)  (t0 : Int32) (S : pm_S)  (r : (Int32 × pm_S)) (h : F_Ledger_at_62 N  t0 S = some r) : pmE pG (pm_rel pG sp (d + 0)) mi_Ledger_at 62 [none, none, none, none, none] [.int t0] S (some (.int r.1), r.2) := by
  unfold F_Ledger_at_62 at h
  cases h
  exact pE_ret rfl rfl rfl
def F_Ledger_at_61 (N : Nat)   (S : pm_S) : Option (Int32 × pm_S) :=
    F_Ledger_at_62 N (-1) S
set_option maxHeartbeats 4000000 in
set_option maxRecDepth 20000 in
theorem f_Ledger_at_61 (sp : pm_I → List Value → pm_S → pm_O → Prop) (d N : Nat)   (S : pm_S)  (r : (Int32 × pm_S)) (h : F_Ledger_at_61 N   S = some r) : pmE pG (pm_rel pG sp (d + 0)) mi_Ledger_at 61 [none, none, none, none, none] [] S (some (.int r.1), r.2) := by
  unfold F_Ledger_at_61 at h
  refine pE_jump 1 (pc' := 62) (ls' := [none, none, none, none, none]) (st' := [.int (-1)]) (fun _ => rfl) ?_
  exact f_Ledger_at_62 sp d N (-1) S _ h
def F_Ledger_at_32 (N : Nat)  (x0 : Nat) (x3 : Int32) (t0 : Int32) (S : pm_S) : Option (Int32 × pm_S) :=
    if t0 = 0 then
    F_Ledger_at_61 N S
    else
    (if x3 < 0 then
    F_Ledger_at_61 N S
    else
    ((oR S x0 2 0).bind fun oq1 => match oq1 with
    | none => none
    | some q1 =>
    (aNS S q1).bind fun v2 =>
    if v2 ≤ x3 then
    F_Ledger_at_61 N S
    else
    ((oR S x0 2 0).bind fun oq3 => match oq3 with
    | none => none
    | some q3 =>
    (aI [0, 6] S q3 x3).bind fun v4 =>
    F_Ledger_at_62 N v4 S)))
set_option maxHeartbeats 4000000 in
set_option maxRecDepth 20000 in
theorem f_Ledger_at_32 (sp : pm_I → List Value → pm_S → pm_O → Prop) (d N : Nat)  (x0 : Nat) (x3 : Int32) (t0 : Int32) (S : pm_S)  (r : (Int32 × pm_S)) (h : F_Ledger_at_32 N  x0 x3 t0 S = some r) : pmE pG (pm_rel pG sp (d + 0)) mi_Ledger_at 32 [some (.ref x0), none, none, some (.int x3), none] [.int t0] S (some (.int r.1), r.2) := by
  unfold F_Ledger_at_32 at h
  refine pE_jump 2 (pc' := 36) (ls' := [some (.ref x0), none, none, some (.int x3), some (.int t0)]) (st' := [.int t0]) (fun _ => rfl) ?_
  refine pE_br (t0 = 0) rfl rfl (fun c7 => ?_) (fun c7 => ?_)
  · rw [if_pos c7] at h
    refine pE_weak [none, none, none, none, none] trivial ?_
    exact f_Ledger_at_61 sp d N S _ h
  · rw [if_neg c7] at h
    refine pE_jump 1 (pc' := 40) (ls' := [some (.ref x0), none, none, some (.int x3), some (.int t0)]) (st' := [.int x3]) (fun _ => rfl) ?_
    refine pE_br (x3 < 0) rfl rfl (fun c6 => ?_) (fun c6 => ?_)
    · rw [if_pos c6] at h
      refine pE_weak [none, none, none, none, none] trivial ?_
      exact f_Ledger_at_61 sp d N S _ h
    · rw [if_neg c6] at h
      refine pE_jump 2 (pc' := 45) (ls' := [some (.ref x0), none, none, some (.int x3), some (.int t0)]) (st' := [.ref x0, .int x3]) (fun _ => rfl) ?_
      obtain ⟨oq1, hq1, h⟩ := obind h
      cases oq1 with
      | none => cases h
      | some q1 =>
        try dsimp only at h
        refine pE_gfS rfl rfl hq1 ?_
        obtain ⟨v2, hv2, h⟩ := obind h
        refine pE_aN rfl hv2 ?_
        refine pE_br (v2 ≤ x3) rfl rfl (fun c5 => ?_) (fun c5 => ?_)
        · rw [if_pos c5] at h
          refine pE_weak [none, none, none, none, none] trivial ?_
          exact f_Ledger_at_61 sp d N S _ h
        · rw [if_neg c5] at h
          refine pE_jump 1 (pc' := 53) (ls' := [some (.ref x0), none, none, some (.int x3), some (.int t0)]) (st' := [.ref x0]) (fun _ => rfl) ?_
          obtain ⟨oq3, hq3, h⟩ := obind h
          cases oq3 with
          | none => cases h
          | some q3 =>
            try dsimp only at h
            refine pE_gfS rfl rfl hq3 ?_
            refine pE_jump 1 (pc' := 57) (ls' := [some (.ref x0), none, none, some (.int x3), some (.int t0)]) (st' := [.int x3, .ref q3]) (fun _ => rfl) ?_
            obtain ⟨v4, hv4, h⟩ := obind h
            refine pE_aI rfl rfl hv4 ?_
            refine pE_jump 1 (pc' := 62) (ls' := [some (.ref x0), none, none, some (.int x3), some (.int t0)]) (st' := [.int v4]) (fun _ => rfl) ?_
            refine pE_weak [none, none, none, none, none] trivial ?_
            exact f_Ledger_at_62 sp d N v4 S _ h
def F_Ledger_at_31 (N : Nat)  (x0 : Nat) (x3 : Int32) (S : pm_S) : Option (Int32 × pm_S) :=
    F_Ledger_at_32 N x0 x3 0 S
set_option maxHeartbeats 4000000 in
set_option maxRecDepth 20000 in
theorem f_Ledger_at_31 (sp : pm_I → List Value → pm_S → pm_O → Prop) (d N : Nat)  (x0 : Nat) (x3 : Int32) (S : pm_S)  (r : (Int32 × pm_S)) (h : F_Ledger_at_31 N  x0 x3 S = some r) : pmE pG (pm_rel pG sp (d + 0)) mi_Ledger_at 31 [some (.ref x0), none, none, some (.int x3), none] [] S (some (.int r.1), r.2) := by
  unfold F_Ledger_at_31 at h
  refine pE_jump 1 (pc' := 32) (ls' := [some (.ref x0), none, none, some (.int x3), none]) (st' := [.int 0]) (fun _ => rfl) ?_
  exact f_Ledger_at_32 sp d N x0 x3 0 S _ h
def F_Ledger_at (N : Nat) (S : pm_S) (a : Nat) (p0 : Int32) (p1 : Int32) : Option (Int32 × pm_S) :=
    if rcv S a 2 = true then
    (if p0 < 0 then
    F_Ledger_at_31 N a ((5 * p0) + p1) S
    else
    ((oI S a 2 2).bind fun v8 =>
    if v8 ≤ p0 then
    F_Ledger_at_31 N a ((5 * p0) + p1) S
    else
    (if p1 < 0 then
    F_Ledger_at_31 N a ((5 * p0) + p1) S
    else
    (if 5 ≤ p1 then
    F_Ledger_at_31 N a ((5 * p0) + p1) S
    else
    F_Ledger_at_32 N a ((5 * p0) + p1) 1 S))))
    else none
theorem g_Ledger_at {N : Nat} {S : pm_S} {a : Nat} {p0 : Int32} {p1 : Int32} {r : (Int32 × pm_S)} (h : F_Ledger_at N S a p0 p1 = some r) : rcv S a 2 = true := by
  unfold F_Ledger_at at h
  by_cases c : rcv S a 2 = true
  · exact c
  · rw [if_neg c] at h; cases h
set_option maxHeartbeats 4000000 in
set_option maxRecDepth 20000 in
theorem f_Ledger_at (sp : pm_I → List Value → pm_S → pm_O → Prop) (d N : Nat) (S : pm_S) (a : Nat) (p0 : Int32) (p1 : Int32) (r : (Int32 × pm_S)) (h : F_Ledger_at N S a p0 p1 = some r) : pm_rel pG sp (d + 1) mi_Ledger_at [.ref a, .int p0, .int p1] S (some (.int r.1), r.2) := by
  have hg := g_Ledger_at h
  unfold F_Ledger_at at h
  rw [if_pos hg] at h
  refine pE_rel (d := d + 0) ?_
  show pmE pG _ mi_Ledger_at 0 [some (.ref a), some (.int p0), some (.int p1), none, none] [] S _
  refine pE_jump 7 (pc' := 7) (ls' := [some (.ref a), some (.int p0), some (.int p1), some (.int ((5 * p0) + p1)), none]) (st' := [.int p0]) (fun _ => rfl) ?_
  refine pE_br (p0 < 0) rfl rfl (fun c12 => ?_) (fun c12 => ?_)
  · rw [if_pos c12] at h
    refine pE_weak [some (.ref a), none, none, some (.int ((5 * p0) + p1)), none] ⟨rfl, ⟨rfl, trivial⟩⟩ ?_
    exact f_Ledger_at_31 sp d N a ((5 * p0) + p1) S _ h
  · rw [if_neg c12] at h
    refine pE_jump 2 (pc' := 12) (ls' := [some (.ref a), some (.int p0), some (.int p1), some (.int ((5 * p0) + p1)), none]) (st' := [.ref a, .int p0]) (fun _ => rfl) ?_
    obtain ⟨v8, hv8, h⟩ := obind h
    refine pE_gfI rfl rfl hv8 ?_
    refine pE_br (v8 ≤ p0) rfl rfl (fun c11 => ?_) (fun c11 => ?_)
    · rw [if_pos c11] at h
      refine pE_weak [some (.ref a), none, none, some (.int ((5 * p0) + p1)), none] ⟨rfl, ⟨rfl, trivial⟩⟩ ?_
      exact f_Ledger_at_31 sp d N a ((5 * p0) + p1) S _ h
    · rw [if_neg c11] at h
      refine pE_jump 1 (pc' := 19) (ls' := [some (.ref a), some (.int p0), some (.int p1), some (.int ((5 * p0) + p1)), none]) (st' := [.int p1]) (fun _ => rfl) ?_
      refine pE_br (p1 < 0) rfl rfl (fun c10 => ?_) (fun c10 => ?_)
      · rw [if_pos c10] at h
        refine pE_weak [some (.ref a), none, none, some (.int ((5 * p0) + p1)), none] ⟨rfl, ⟨rfl, trivial⟩⟩ ?_
        exact f_Ledger_at_31 sp d N a ((5 * p0) + p1) S _ h
      · rw [if_neg c10] at h
        refine pE_jump 2 (pc' := 24) (ls' := [some (.ref a), some (.int p0), some (.int p1), some (.int ((5 * p0) + p1)), none]) (st' := [.int 5, .int p1]) (fun _ => rfl) ?_
        refine pE_br (5 ≤ p1) rfl rfl (fun c9 => ?_) (fun c9 => ?_)
        · rw [if_pos c9] at h
          refine pE_weak [some (.ref a), none, none, some (.int ((5 * p0) + p1)), none] ⟨rfl, ⟨rfl, trivial⟩⟩ ?_
          exact f_Ledger_at_31 sp d N a ((5 * p0) + p1) S _ h
        · rw [if_neg c9] at h
          refine pE_jump 2 (pc' := 32) (ls' := [some (.ref a), some (.int p0), some (.int p1), some (.int ((5 * p0) + p1)), none]) (st' := [.int 1]) (fun _ => rfl) ?_
          refine pE_weak [some (.ref a), none, none, some (.int ((5 * p0) + p1)), none] ⟨rfl, ⟨rfl, trivial⟩⟩ ?_
          exact f_Ledger_at_32 sp d N a ((5 * p0) + p1) 1 S _ h
def F_Plan_pairsOf (N : Nat) (S : pm_S) (a : Nat) (p0 : Int32) : Option (Int32 × pm_S) :=
    if rcv S a 4 = true then
    ((oR S a 4 1).bind fun oq1 => match oq1 with
    | none => none
    | some q1 =>
    (F_Ledger_at N S q1 p0 2).bind fun (v3, S2) =>
    some (v3, S2))
    else none
theorem g_Plan_pairsOf {N : Nat} {S : pm_S} {a : Nat} {p0 : Int32} {r : (Int32 × pm_S)} (h : F_Plan_pairsOf N S a p0 = some r) : rcv S a 4 = true := by
  unfold F_Plan_pairsOf at h
  by_cases c : rcv S a 4 = true
  · exact c
  · rw [if_neg c] at h; cases h
set_option maxHeartbeats 4000000 in
set_option maxRecDepth 20000 in
theorem f_Plan_pairsOf (sp : pm_I → List Value → pm_S → pm_O → Prop) (d N : Nat) (S : pm_S) (a : Nat) (p0 : Int32) (r : (Int32 × pm_S)) (h : F_Plan_pairsOf N S a p0 = some r) : pm_rel pG sp (d + 2) mi_Plan_pairsOf [.ref a, .int p0] S (some (.int r.1), r.2) := by
  have hg := g_Plan_pairsOf h
  unfold F_Plan_pairsOf at h
  rw [if_pos hg] at h
  refine pE_rel (d := d + 1) ?_
  show pmE pG _ mi_Plan_pairsOf 0 [some (.ref a), some (.int p0)] [] S _
  refine pE_jump 1 (pc' := 1) (ls' := [some (.ref a), some (.int p0)]) (st' := [.ref a]) (fun _ => rfl) ?_
  obtain ⟨oq1, hq1, h⟩ := obind h
  cases oq1 with
  | none => cases h
  | some q1 =>
    try dsimp only at h
    refine pE_gfS rfl rfl hq1 ?_
    refine pE_jump 2 (pc' := 6) (ls' := [some (.ref a), some (.int p0)]) (st' := [.int 2, .int p0, .ref q1]) (fun _ => rfl) ?_
    obtain ⟨⟨v3, S2⟩, hv3, h⟩ := obind h
    try dsimp only at h
    refine pE_iv (Bs := [.int p0, .int 2]) (st := []) 1 rfl (Or.inl ⟨rfl, rfl⟩) rfl rfl (Nat.le_of_ble_eq_true rfl) (Nat.le_of_ble_eq_true rfl) (g_Ledger_at hv3) (f_Ledger_at sp d N S q1 p0 2 _ hv3) ?_
    cases h
    exact pE_ret rfl rfl rfl
def F_Ledger_has_17 (N : Nat)  (t0 : Int32) (S : pm_S) : Option (Int32 × pm_S) :=
    if t0 = 0 ∨ t0 = 1 then some (t0, S) else none
set_option maxHeartbeats 4000000 in
set_option maxRecDepth 20000 in
theorem f_Ledger_has_17 (sp : pm_I → List Value → pm_S → pm_O → Prop) (d N : Nat)  (t0 : Int32) (S : pm_S)  (r : (Int32 × pm_S)) (h : F_Ledger_has_17 N  t0 S = some r) : pmE pG (pm_rel pG sp (d + 0)) mi_Ledger_has 17 [none, none] [.int t0] S (some (.int r.1), r.2) := by
  unfold F_Ledger_has_17 at h
  by_cases c1 : t0 = 0 ∨ t0 = 1
  · rw [if_pos c1] at h
    cases h
    exact pE_ret rfl (if_pos c1) rfl
  · rw [if_neg c1] at h
    cases h
def F_Ledger_has_16 (N : Nat)   (S : pm_S) : Option (Int32 × pm_S) :=
    F_Ledger_has_17 N 0 S
set_option maxHeartbeats 4000000 in
set_option maxRecDepth 20000 in
theorem f_Ledger_has_16 (sp : pm_I → List Value → pm_S → pm_O → Prop) (d N : Nat)   (S : pm_S)  (r : (Int32 × pm_S)) (h : F_Ledger_has_16 N   S = some r) : pmE pG (pm_rel pG sp (d + 0)) mi_Ledger_has 16 [none, none] [] S (some (.int r.1), r.2) := by
  unfold F_Ledger_has_16 at h
  refine pE_jump 1 (pc' := 17) (ls' := [none, none]) (st' := [.int 0]) (fun _ => rfl) ?_
  exact f_Ledger_has_17 sp d N 0 S _ h
def F_Ledger_has (N : Nat) (S : pm_S) (a : Nat) (p0 : Int32) : Option (Int32 × pm_S) :=
    if rcv S a 2 = true then
    (if p0 < 0 then
    F_Ledger_has_16 N S
    else
    ((oI S a 2 2).bind fun v2 =>
    if v2 ≤ p0 then
    F_Ledger_has_16 N S
    else
    F_Ledger_has_17 N 1 S))
    else none
theorem g_Ledger_has {N : Nat} {S : pm_S} {a : Nat} {p0 : Int32} {r : (Int32 × pm_S)} (h : F_Ledger_has N S a p0 = some r) : rcv S a 2 = true := by
  unfold F_Ledger_has at h
  by_cases c : rcv S a 2 = true
  · exact c
  · rw [if_neg c] at h; cases h
set_option maxHeartbeats 4000000 in
set_option maxRecDepth 20000 in
theorem f_Ledger_has (sp : pm_I → List Value → pm_S → pm_O → Prop) (d N : Nat) (S : pm_S) (a : Nat) (p0 : Int32) (r : (Int32 × pm_S)) (h : F_Ledger_has N S a p0 = some r) : pm_rel pG sp (d + 1) mi_Ledger_has [.ref a, .int p0] S (some (.int r.1), r.2) := by
  have hg := g_Ledger_has h
  unfold F_Ledger_has at h
  rw [if_pos hg] at h
  refine pE_rel (d := d + 0) ?_
  show pmE pG _ mi_Ledger_has 0 [some (.ref a), some (.int p0)] [] S _
  refine pE_jump 1 (pc' := 1) (ls' := [some (.ref a), some (.int p0)]) (st' := [.int p0]) (fun _ => rfl) ?_
  refine pE_br (p0 < 0) rfl rfl (fun c4 => ?_) (fun c4 => ?_)
  · rw [if_pos c4] at h
    refine pE_weak [none, none] trivial ?_
    exact f_Ledger_has_16 sp d N S _ h
  · rw [if_neg c4] at h
    refine pE_jump 2 (pc' := 6) (ls' := [some (.ref a), some (.int p0)]) (st' := [.ref a, .int p0]) (fun _ => rfl) ?_
    obtain ⟨v2, hv2, h⟩ := obind h
    refine pE_gfI rfl rfl hv2 ?_
    refine pE_br (v2 ≤ p0) rfl rfl (fun c3 => ?_) (fun c3 => ?_)
    · rw [if_pos c3] at h
      refine pE_weak [none, none] trivial ?_
      exact f_Ledger_has_16 sp d N S _ h
    · rw [if_neg c3] at h
      refine pE_jump 2 (pc' := 17) (ls' := [some (.ref a), some (.int p0)]) (st' := [.int 1]) (fun _ => rfl) ?_
      refine pE_weak [none, none] trivial ?_
      exact f_Ledger_has_17 sp d N 1 S _ h
def F_Plan_boxAt_14_2 (N : Nat)  (t0 : Int32) (t1 : Int32) (t2 : Nat) (S : pm_S) : Option (Int32 × pm_S) :=
    (F_Ledger_at N S t2 t1 t0).bind fun (v3, S2) =>
    some (v3, S2)
set_option maxHeartbeats 4000000 in
set_option maxRecDepth 20000 in
theorem f_Plan_boxAt_14_2 (sp : pm_I → List Value → pm_S → pm_O → Prop) (d N : Nat)  (t0 : Int32) (t1 : Int32) (t2 : Nat) (S : pm_S)  (r : (Int32 × pm_S)) (h : F_Plan_boxAt_14_2 N  t0 t1 t2 S = some r) : pmE pG (pm_rel pG sp (d + 1)) mi_Plan_boxAt 14 [none, none, none] [.int t0, .int t1, .ref t2] S (some (.int r.1), r.2) := by
  unfold F_Plan_boxAt_14_2 at h
  obtain ⟨⟨v3, S2⟩, hv3, h⟩ := obind h
  try dsimp only at h
  refine pE_iv (Bs := [.int t1, .int t0]) (st := []) 1 rfl (Or.inl ⟨rfl, rfl⟩) rfl rfl (Nat.le_of_ble_eq_true rfl) (Nat.le_of_ble_eq_true rfl) (g_Ledger_at hv3) (f_Ledger_at sp d N S t2 t1 t0 _ hv3) ?_
  cases h
  exact pE_ret rfl rfl rfl
def F_Plan_boxAt (N : Nat) (S : pm_S) (a : Nat) (p0 : Int32) (p1 : Int32) : Option (Int32 × pm_S) :=
    if rcv S a 4 = true then
    ((oR S a 4 1).bind fun oq1 => match oq1 with
    | none => none
    | some q1 =>
    if p1 = 0 then
    F_Plan_boxAt_14_2 N 0 p0 q1 S
    else
    F_Plan_boxAt_14_2 N 1 p0 q1 S)
    else none
theorem g_Plan_boxAt {N : Nat} {S : pm_S} {a : Nat} {p0 : Int32} {p1 : Int32} {r : (Int32 × pm_S)} (h : F_Plan_boxAt N S a p0 p1 = some r) : rcv S a 4 = true := by
  unfold F_Plan_boxAt at h
  by_cases c : rcv S a 4 = true
  · exact c
  · rw [if_neg c] at h; cases h
set_option maxHeartbeats 4000000 in
set_option maxRecDepth 20000 in
theorem f_Plan_boxAt (sp : pm_I → List Value → pm_S → pm_O → Prop) (d N : Nat) (S : pm_S) (a : Nat) (p0 : Int32) (p1 : Int32) (r : (Int32 × pm_S)) (h : F_Plan_boxAt N S a p0 p1 = some r) : pm_rel pG sp (d + 2) mi_Plan_boxAt [.ref a, .int p0, .int p1] S (some (.int r.1), r.2) := by
  have hg := g_Plan_boxAt h
  unfold F_Plan_boxAt at h
  rw [if_pos hg] at h
  refine pE_rel (d := d + 1) ?_
  show pmE pG _ mi_Plan_boxAt 0 [some (.ref a), some (.int p0), some (.int p1)] [] S _
  refine pE_jump 1 (pc' := 1) (ls' := [some (.ref a), some (.int p0), some (.int p1)]) (st' := [.ref a]) (fun _ => rfl) ?_
  obtain ⟨oq1, hq1, h⟩ := obind h
  cases oq1 with
  | none => cases h
  | some q1 =>
    try dsimp only at h
    refine pE_gfS rfl rfl hq1 ?_
    refine pE_jump 2 (pc' := 6) (ls' := [some (.ref a), some (.int p0), some (.int p1)]) (st' := [.int p1, .int p0, .ref q1]) (fun _ => rfl) ?_
    refine pE_br (¬ p1 = 0) rfl rfl (fun c4 => ?_) (fun c4 => ?_)
    · rw [if_neg c4] at h
      refine pE_jump 1 (pc' := 14) (ls' := [some (.ref a), some (.int p0), some (.int p1)]) (st' := [.int 1, .int p0, .ref q1]) (fun _ => rfl) ?_
      refine pE_weak [none, none, none] trivial ?_
      exact f_Plan_boxAt_14_2 sp d N 1 p0 q1 S _ h
    · have c4 := Decidable.not_not.mp c4
      rw [if_pos c4] at h
      refine pE_jump 2 (pc' := 14) (ls' := [some (.ref a), some (.int p0), some (.int p1)]) (st' := [.int 0, .int p0, .ref q1]) (fun _ => rfl) ?_
      refine pE_weak [none, none, none] trivial ?_
      exact f_Plan_boxAt_14_2 sp d N 0 p0 q1 S _ h
def F_Plan_meet_42 (N : Nat)  (t0 : Int32) (S : pm_S) : Option (Int32 × pm_S) :=
    if t0 = 0 ∨ t0 = 1 then some (t0, S) else none
set_option maxHeartbeats 4000000 in
set_option maxRecDepth 20000 in
theorem f_Plan_meet_42 (sp : pm_I → List Value → pm_S → pm_O → Prop) (d N : Nat)  (t0 : Int32) (S : pm_S)  (r : (Int32 × pm_S)) (h : F_Plan_meet_42 N  t0 S = some r) : pmE pG (pm_rel pG sp (d + 2)) mi_Plan_meet 42 [none, none, none] [.int t0] S (some (.int r.1), r.2) := by
  unfold F_Plan_meet_42 at h
  by_cases c4 : t0 = 0 ∨ t0 = 1
  · rw [if_pos c4] at h
    cases h
    exact pE_ret rfl (if_pos c4) rfl
  · rw [if_neg c4] at h
    cases h
def F_Plan_meet_41 (N : Nat)   (S : pm_S) : Option (Int32 × pm_S) :=
    F_Plan_meet_42 N 0 S
set_option maxHeartbeats 4000000 in
set_option maxRecDepth 20000 in
theorem f_Plan_meet_41 (sp : pm_I → List Value → pm_S → pm_O → Prop) (d N : Nat)   (S : pm_S)  (r : (Int32 × pm_S)) (h : F_Plan_meet_41 N   S = some r) : pmE pG (pm_rel pG sp (d + 2)) mi_Plan_meet 41 [none, none, none] [] S (some (.int r.1), r.2) := by
  unfold F_Plan_meet_41 at h
  refine pE_jump 1 (pc' := 42) (ls' := [none, none, none]) (st' := [.int 0]) (fun _ => rfl) ?_
  exact f_Plan_meet_42 sp d N 0 S _ h
def F_Plan_meet (N : Nat) (S : pm_S) (a : Nat) (p0 : Int32) (p1 : Int32) : Option (Int32 × pm_S) :=
    if rcv S a 4 = true then
    ((oR S a 4 1).bind fun oq1 => match oq1 with
    | none => none
    | some q1 =>
    (F_Ledger_has N S q1 p0).bind fun (v3, S2) =>
    if v3 = 0 then
    F_Plan_meet_41 N S2
    else
    ((oR S2 a 4 1).bind fun oq5 => match oq5 with
    | none => none
    | some q5 =>
    (F_Ledger_has N S2 q5 p1).bind fun (v7, S6) =>
    if v7 = 0 then
    F_Plan_meet_41 N S6
    else
    ((F_Plan_boxAt N S6 a p0 1).bind fun (v9, S8) =>
    (F_Plan_boxAt N S8 a p1 0).bind fun (v11, S10) =>
    if v9 = v11 then
    F_Plan_meet_42 N 1 S10
    else
    F_Plan_meet_41 N S10)))
    else none
theorem g_Plan_meet {N : Nat} {S : pm_S} {a : Nat} {p0 : Int32} {p1 : Int32} {r : (Int32 × pm_S)} (h : F_Plan_meet N S a p0 p1 = some r) : rcv S a 4 = true := by
  unfold F_Plan_meet at h
  by_cases c : rcv S a 4 = true
  · exact c
  · rw [if_neg c] at h; cases h
set_option maxHeartbeats 4000000 in
set_option maxRecDepth 20000 in
theorem f_Plan_meet (sp : pm_I → List Value → pm_S → pm_O → Prop) (d N : Nat) (S : pm_S) (a : Nat) (p0 : Int32) (p1 : Int32) (r : (Int32 × pm_S)) (h : F_Plan_meet N S a p0 p1 = some r) : pm_rel pG sp (d + 3) mi_Plan_meet [.ref a, .int p0, .int p1] S (some (.int r.1), r.2) := by
  have hg := g_Plan_meet h
  unfold F_Plan_meet at h
  rw [if_pos hg] at h
  refine pE_rel (d := d + 2) ?_
  show pmE pG _ mi_Plan_meet 0 [some (.ref a), some (.int p0), some (.int p1)] [] S _
  refine pE_jump 1 (pc' := 1) (ls' := [some (.ref a), some (.int p0), some (.int p1)]) (st' := [.ref a]) (fun _ => rfl) ?_
  obtain ⟨oq1, hq1, h⟩ := obind h
  cases oq1 with
  | none => cases h
  | some q1 =>
    try dsimp only at h
    refine pE_gfS rfl rfl hq1 ?_
    refine pE_jump 1 (pc' := 5) (ls' := [some (.ref a), some (.int p0), some (.int p1)]) (st' := [.int p0, .ref q1]) (fun _ => rfl) ?_
    obtain ⟨⟨v3, S2⟩, hv3, h⟩ := obind h
    try dsimp only at h
    refine pE_iv (Bs := [.int p0]) (st := []) 1 rfl (Or.inl ⟨rfl, rfl⟩) rfl rfl (Nat.le_of_ble_eq_true rfl) (Nat.le_of_ble_eq_true rfl) (g_Ledger_has hv3) (f_Ledger_has sp (d + 1) N S q1 p0 _ hv3) ?_
    refine pE_br (v3 = 0) rfl rfl (fun c14 => ?_) (fun c14 => ?_)
    · rw [if_pos c14] at h
      refine pE_weak [none, none, none] trivial ?_
      exact f_Plan_meet_41 sp d N S2 _ h
    · rw [if_neg c14] at h
      refine pE_jump 1 (pc' := 12) (ls' := [some (.ref a), some (.int p0), some (.int p1)]) (st' := [.ref a]) (fun _ => rfl) ?_
      obtain ⟨oq5, hq5, h⟩ := obind h
      cases oq5 with
      | none => cases h
      | some q5 =>
        try dsimp only at h
        refine pE_gfS rfl rfl hq5 ?_
        refine pE_jump 1 (pc' := 16) (ls' := [some (.ref a), some (.int p0), some (.int p1)]) (st' := [.int p1, .ref q5]) (fun _ => rfl) ?_
        obtain ⟨⟨v7, S6⟩, hv7, h⟩ := obind h
        try dsimp only at h
        refine pE_iv (Bs := [.int p1]) (st := []) 1 rfl (Or.inl ⟨rfl, rfl⟩) rfl rfl (Nat.le_of_ble_eq_true rfl) (Nat.le_of_ble_eq_true rfl) (g_Ledger_has hv7) (f_Ledger_has sp (d + 1) N S2 q5 p1 _ hv7) ?_
        refine pE_br (v7 = 0) rfl rfl (fun c13 => ?_) (fun c13 => ?_)
        · rw [if_pos c13] at h
          refine pE_weak [none, none, none] trivial ?_
          exact f_Plan_meet_41 sp d N S6 _ h
        · rw [if_neg c13] at h
          refine pE_jump 3 (pc' := 25) (ls' := [some (.ref a), some (.int p0), some (.int p1)]) (st' := [.int 1, .int p0, .ref a]) (fun _ => rfl) ?_
          obtain ⟨⟨v9, S8⟩, hv9, h⟩ := obind h
          try dsimp only at h
          refine pE_iv (Bs := [.int p0, .int 1]) (st := []) 1 rfl (Or.inl ⟨rfl, rfl⟩) rfl rfl (Nat.le_of_ble_eq_true rfl) (Nat.le_of_ble_eq_true rfl) (g_Plan_boxAt hv9) (f_Plan_boxAt sp d N S6 a p0 1 _ hv9) ?_
          refine pE_jump 3 (pc' := 31) (ls' := [some (.ref a), some (.int p0), some (.int p1)]) (st' := [.int 0, .int p1, .ref a, .int v9]) (fun _ => rfl) ?_
          obtain ⟨⟨v11, S10⟩, hv11, h⟩ := obind h
          try dsimp only at h
          refine pE_iv (Bs := [.int p1, .int 0]) (st := [.int v9]) 1 rfl (Or.inl ⟨rfl, rfl⟩) rfl rfl (Nat.le_of_ble_eq_true rfl) (Nat.le_of_ble_eq_true rfl) (g_Plan_boxAt hv11) (f_Plan_boxAt sp d N S8 a p1 0 _ hv11) ?_
          refine pE_br (¬ v9 = v11) rfl rfl (fun c12 => ?_) (fun c12 => ?_)
          · rw [if_neg c12] at h
            refine pE_weak [none, none, none] trivial ?_
            exact f_Plan_meet_41 sp d N S10 _ h
          · have c12 := Decidable.not_not.mp c12
            rw [if_pos c12] at h
            refine pE_jump 2 (pc' := 42) (ls' := [some (.ref a), some (.int p0), some (.int p1)]) (st' := [.int 1]) (fun _ => rfl) ?_
            refine pE_weak [none, none, none] trivial ?_
            exact f_Plan_meet_42 sp d N 1 S10 _ h
def F_BP_siteOf (N : Nat) (S : pm_S) (p0 : Int32) (p1 : Int32) : Option (Int32 × pm_S) :=
    some ((8 * p0) + p1, S)
set_option maxHeartbeats 4000000 in
set_option maxRecDepth 20000 in
theorem f_BP_siteOf (sp : pm_I → List Value → pm_S → pm_O → Prop) (d N : Nat) (S : pm_S) (p0 : Int32) (p1 : Int32) (r : (Int32 × pm_S)) (h : F_BP_siteOf N S p0 p1 = some r) : pm_rel pG sp (d + 1) mi_BP_siteOf [.int p0, .int p1] S (some (.int r.1), r.2) := by
  unfold F_BP_siteOf at h
  refine pE_rel (d := d + 0) ?_
  show pmE pG _ mi_BP_siteOf 0 [some (.int p0), some (.int p1)] [] S _
  refine pE_jump 5 (pc' := 6) (ls' := [some (.int p0), some (.int p1)]) (st' := [.int ((8 * p0) + p1)]) (fun _ => rfl) ?_
  cases h
  exact pE_ret rfl rfl rfl
def F_Layout_join (N : Nat) (S : pm_S) (a : Nat) (p0 : Int32) (p1 : Int32) : Option pm_S :=
    if rcv S a 1 = true then
    ((oR S a 1 1).bind fun oq1 => match oq1 with
    | none => none
    | some q1 =>
    (oR S a 1 0).bind fun oq5 => match oq5 with
    | none => none
    | some q5 =>
    (F_BP_valueAt N S q5 p0).bind fun (v7, S6) =>
    (F_BP_setAt N S6 q1 v7 (-1)).bind fun S8 =>
    (oR S8 a 1 0).bind fun oq9 => match oq9 with
    | none => none
    | some q9 =>
    (oR S8 a 1 1).bind fun oq13 => match oq13 with
    | none => none
    | some q13 =>
    (F_BP_valueAt N S8 q13 p1).bind fun (v15, S14) =>
    (F_BP_setAt N S14 q9 v15 (-1)).bind fun S16 =>
    (oR S16 a 1 0).bind fun oq17 => match oq17 with
    | none => none
    | some q17 =>
    (F_BP_setAt N S16 q17 p0 p1).bind fun S18 =>
    (oR S18 a 1 1).bind fun oq19 => match oq19 with
    | none => none
    | some q19 =>
    (F_BP_setAt N S18 q19 p1 p0).bind fun S20 =>
    some S20)
    else none
theorem g_Layout_join {N : Nat} {S : pm_S} {a : Nat} {p0 : Int32} {p1 : Int32} {r : pm_S} (h : F_Layout_join N S a p0 p1 = some r) : rcv S a 1 = true := by
  unfold F_Layout_join at h
  by_cases c : rcv S a 1 = true
  · exact c
  · rw [if_neg c] at h; cases h
set_option maxHeartbeats 4000000 in
set_option maxRecDepth 20000 in
theorem f_Layout_join (sp : pm_I → List Value → pm_S → pm_O → Prop) (d N : Nat) (S : pm_S) (a : Nat) (p0 : Int32) (p1 : Int32) (r : pm_S) (h : F_Layout_join N S a p0 p1 = some r) : pm_rel pG sp (d + 2) mi_Layout_join [.ref a, .int p0, .int p1] S (none, r) := by
  have hg := g_Layout_join h
  unfold F_Layout_join at h
  rw [if_pos hg] at h
  refine pE_rel (d := d + 1) ?_
  show pmE pG _ mi_Layout_join 0 [some (.ref a), some (.int p0), some (.int p1)] [] S _
  refine pE_jump 1 (pc' := 1) (ls' := [some (.ref a), some (.int p0), some (.int p1)]) (st' := [.ref a]) (fun _ => rfl) ?_
  obtain ⟨oq1, hq1, h⟩ := obind h
  cases oq1 with
  | none => cases h
  | some q1 =>
    try dsimp only at h
    refine pE_gfS rfl rfl hq1 ?_
    refine pE_jump 1 (pc' := 5) (ls' := [some (.ref a), some (.int p0), some (.int p1)]) (st' := [.ref a, .ref q1]) (fun _ => rfl) ?_
    obtain ⟨oq5, hq5, h⟩ := obind h
    cases oq5 with
    | none => cases h
    | some q5 =>
      try dsimp only at h
      refine pE_gfS rfl rfl hq5 ?_
      refine pE_jump 1 (pc' := 9) (ls' := [some (.ref a), some (.int p0), some (.int p1)]) (st' := [.int p0, .ref q5, .ref q1]) (fun _ => rfl) ?_
      obtain ⟨⟨v7, S6⟩, hv7, h⟩ := obind h
      try dsimp only at h
      refine pE_is (Bs := [.ref q5, .int p0]) (st := [.ref q1]) rfl rfl rfl (Nat.le_of_ble_eq_true rfl) (Nat.le_of_ble_eq_true rfl) (f_BP_valueAt sp d N S q5 p0 _ hv7) ?_
      refine pE_jump 1 (pc' := 13) (ls' := [some (.ref a), some (.int p0), some (.int p1)]) (st' := [.int (-1), .int v7, .ref q1]) (fun _ => rfl) ?_
      obtain ⟨S8, hS8, h⟩ := obind h
      refine pE_is (Bs := [.ref q1, .int v7, .int (-1)]) (st := []) rfl rfl rfl (Nat.le_of_ble_eq_true rfl) (Nat.le_of_ble_eq_true rfl) (f_BP_setAt sp d N S6 q1 v7 (-1) _ hS8) ?_
      refine pE_jump 1 (pc' := 17) (ls' := [some (.ref a), some (.int p0), some (.int p1)]) (st' := [.ref a]) (fun _ => rfl) ?_
      obtain ⟨oq9, hq9, h⟩ := obind h
      cases oq9 with
      | none => cases h
      | some q9 =>
        try dsimp only at h
        refine pE_gfS rfl rfl hq9 ?_
        refine pE_jump 1 (pc' := 21) (ls' := [some (.ref a), some (.int p0), some (.int p1)]) (st' := [.ref a, .ref q9]) (fun _ => rfl) ?_
        obtain ⟨oq13, hq13, h⟩ := obind h
        cases oq13 with
        | none => cases h
        | some q13 =>
          try dsimp only at h
          refine pE_gfS rfl rfl hq13 ?_
          refine pE_jump 1 (pc' := 25) (ls' := [some (.ref a), some (.int p0), some (.int p1)]) (st' := [.int p1, .ref q13, .ref q9]) (fun _ => rfl) ?_
          obtain ⟨⟨v15, S14⟩, hv15, h⟩ := obind h
          try dsimp only at h
          refine pE_is (Bs := [.ref q13, .int p1]) (st := [.ref q9]) rfl rfl rfl (Nat.le_of_ble_eq_true rfl) (Nat.le_of_ble_eq_true rfl) (f_BP_valueAt sp d N S8 q13 p1 _ hv15) ?_
          refine pE_jump 1 (pc' := 29) (ls' := [some (.ref a), some (.int p0), some (.int p1)]) (st' := [.int (-1), .int v15, .ref q9]) (fun _ => rfl) ?_
          obtain ⟨S16, hS16, h⟩ := obind h
          refine pE_is (Bs := [.ref q9, .int v15, .int (-1)]) (st := []) rfl rfl rfl (Nat.le_of_ble_eq_true rfl) (Nat.le_of_ble_eq_true rfl) (f_BP_setAt sp d N S14 q9 v15 (-1) _ hS16) ?_
          refine pE_jump 1 (pc' := 33) (ls' := [some (.ref a), some (.int p0), some (.int p1)]) (st' := [.ref a]) (fun _ => rfl) ?_
          obtain ⟨oq17, hq17, h⟩ := obind h
          cases oq17 with
          | none => cases h
          | some q17 =>
            try dsimp only at h
            refine pE_gfS rfl rfl hq17 ?_
            refine pE_jump 2 (pc' := 38) (ls' := [some (.ref a), some (.int p0), some (.int p1)]) (st' := [.int p1, .int p0, .ref q17]) (fun _ => rfl) ?_
            obtain ⟨S18, hS18, h⟩ := obind h
            refine pE_is (Bs := [.ref q17, .int p0, .int p1]) (st := []) rfl rfl rfl (Nat.le_of_ble_eq_true rfl) (Nat.le_of_ble_eq_true rfl) (f_BP_setAt sp d N S16 q17 p0 p1 _ hS18) ?_
            refine pE_jump 1 (pc' := 42) (ls' := [some (.ref a), some (.int p0), some (.int p1)]) (st' := [.ref a]) (fun _ => rfl) ?_
            obtain ⟨oq19, hq19, h⟩ := obind h
            cases oq19 with
            | none => cases h
            | some q19 =>
              try dsimp only at h
              refine pE_gfS rfl rfl hq19 ?_
              refine pE_jump 2 (pc' := 47) (ls' := [some (.ref a), some (.int p0), some (.int p1)]) (st' := [.int p0, .int p1, .ref q19]) (fun _ => rfl) ?_
              obtain ⟨S20, hS20, h⟩ := obind h
              refine pE_is (Bs := [.ref q19, .int p1, .int p0]) (st := []) rfl rfl rfl (Nat.le_of_ble_eq_true rfl) (Nat.le_of_ble_eq_true rfl) (f_BP_setAt sp d N S18 q19 p1 p0 _ hS20) ?_
              cases h
              exact pE_ret rfl rfl rfl
def F_Reader_readJoint_106 (N : Nat)   (S : pm_S) : Option pm_S :=
    some S
set_option maxHeartbeats 4000000 in
set_option maxRecDepth 20000 in
theorem f_Reader_readJoint_106 (sp : pm_I → List Value → pm_S → pm_O → Prop) (d N : Nat)   (S : pm_S)  (r : pm_S) (h : F_Reader_readJoint_106 N   S = some r) : pmE pG (pm_rel pG sp (d + 4)) mi_Reader_readJoint 106 [none, none, none, none, none, none] [] S (none, r) := by
  unfold F_Reader_readJoint_106 at h
  cases h
  exact pE_ret rfl rfl rfl
def F_Reader_readJoint_64 (N : Nat)  (x0 : Nat) (x1 : Nat) (x2 : Int32) (x3 : Int32) (x4 : Int32) (S : pm_S) : Option pm_S :=
    (F_Plan_pairsOf N S x1 x4).bind fun (v20, S19) =>
    (F_Reader_number N S19 x0 0 (v20 - 1)).bind fun (v22, S21) =>
    (oI S21 x0 7 2).bind fun v23 =>
    if v23 = (-1) then
    ((oR S21 x1 4 4).bind fun oq24 => match oq24 with
    | none => none
    | some q24 =>
    (F_BP_siteOf N S21 x2 x3).bind fun (v30, S29) =>
    (F_BP_siteOf N S29 x4 v22).bind fun (v32, S31) =>
    (F_Layout_join N S31 q24 v30 v32).bind fun S33 =>
    F_Reader_readJoint_106 N S33)
    else
    F_Reader_readJoint_106 N S21
set_option maxHeartbeats 4000000 in
set_option maxRecDepth 20000 in
theorem f_Reader_readJoint_64 (sp : pm_I → List Value → pm_S → pm_O → Prop) (d N : Nat)  (x0 : Nat) (x1 : Nat) (x2 : Int32) (x3 : Int32) (x4 : Int32) (S : pm_S)  (r : pm_S) (h : F_Reader_readJoint_64 N  x0 x1 x2 x3 x4 S = some r) : pmE pG (pm_rel pG sp (d + 4)) mi_Reader_readJoint 64 [some (.ref x0), some (.ref x1), some (.int x2), some (.int x3), some (.int x4), none] [] S (none, r) := by
  unfold F_Reader_readJoint_64 at h
  refine pE_jump 4 (pc' := 69) (ls' := [some (.ref x0), some (.ref x1), some (.int x2), some (.int x3), some (.int x4), none]) (st' := [.int x4, .ref x1, .int 0, .ref x0]) (fun _ => rfl) ?_
  obtain ⟨⟨v20, S19⟩, hv20, h⟩ := obind h
  try dsimp only at h
  refine pE_iv (Bs := [.int x4]) (st := [.int 0, .ref x0]) 1 rfl (Or.inl ⟨rfl, rfl⟩) rfl rfl (Nat.le_of_ble_eq_true rfl) (Nat.le_of_ble_eq_true rfl) (g_Plan_pairsOf hv20) (f_Plan_pairsOf sp (d + 2) N S x1 x4 _ hv20) ?_
  refine pE_jump 2 (pc' := 74) (ls' := [some (.ref x0), some (.ref x1), some (.int x2), some (.int x3), some (.int x4), none]) (st' := [.int (v20 - 1), .int 0, .ref x0]) (fun _ => rfl) ?_
  obtain ⟨⟨v22, S21⟩, hv22, h⟩ := obind h
  try dsimp only at h
  refine pE_iv (Bs := [.int 0, .int (v20 - 1)]) (st := []) 1 rfl (Or.inl ⟨rfl, rfl⟩) rfl rfl (Nat.le_of_ble_eq_true rfl) (Nat.le_of_ble_eq_true rfl) (g_Reader_number hv22) (f_Reader_number sp d N S19 x0 0 (v20 - 1) _ hv22) ?_
  refine pE_jump 2 (pc' := 80) (ls' := [some (.ref x0), some (.ref x1), some (.int x2), some (.int x3), some (.int x4), some (.int v22)]) (st' := [.ref x0]) (fun _ => rfl) ?_
  obtain ⟨v23, hv23, h⟩ := obind h
  refine pE_gfI rfl rfl hv23 ?_
  refine pE_jump 1 (pc' := 84) (ls' := [some (.ref x0), some (.ref x1), some (.int x2), some (.int x3), some (.int x4), some (.int v22)]) (st' := [.int (-1), .int v23]) (fun _ => rfl) ?_
  refine pE_br (¬ v23 = (-1)) rfl rfl (fun c34 => ?_) (fun c34 => ?_)
  · rw [if_neg c34] at h
    refine pE_weak [none, none, none, none, none, none] trivial ?_
    exact f_Reader_readJoint_106 sp d N S21 _ h
  · have c34 := Decidable.not_not.mp c34
    rw [if_pos c34] at h
    refine pE_jump 1 (pc' := 88) (ls' := [some (.ref x0), some (.ref x1), some (.int x2), some (.int x3), some (.int x4), some (.int v22)]) (st' := [.ref x1]) (fun _ => rfl) ?_
    obtain ⟨oq24, hq24, h⟩ := obind h
    cases oq24 with
    | none => cases h
    | some q24 =>
      try dsimp only at h
      refine pE_gfS rfl rfl hq24 ?_
      refine pE_jump 2 (pc' := 93) (ls' := [some (.ref x0), some (.ref x1), some (.int x2), some (.int x3), some (.int x4), some (.int v22)]) (st' := [.int x3, .int x2, .ref q24]) (fun _ => rfl) ?_
      obtain ⟨⟨v30, S29⟩, hv30, h⟩ := obind h
      try dsimp only at h
      refine pE_is (Bs := [.int x2, .int x3]) (st := [.ref q24]) rfl rfl rfl (Nat.le_of_ble_eq_true rfl) (Nat.le_of_ble_eq_true rfl) (f_BP_siteOf sp (d + 3) N S21 x2 x3 _ hv30) ?_
      refine pE_jump 2 (pc' := 100) (ls' := [some (.ref x0), some (.ref x1), some (.int x2), some (.int x3), some (.int x4), some (.int v22)]) (st' := [.int v22, .int x4, .int v30, .ref q24]) (fun _ => rfl) ?_
      obtain ⟨⟨v32, S31⟩, hv32, h⟩ := obind h
      try dsimp only at h
      refine pE_is (Bs := [.int x4, .int v22]) (st := [.int v30, .ref q24]) rfl rfl rfl (Nat.le_of_ble_eq_true rfl) (Nat.le_of_ble_eq_true rfl) (f_BP_siteOf sp (d + 3) N S29 x4 v22 _ hv32) ?_
      obtain ⟨S33, hS33, h⟩ := obind h
      refine pE_iv (Bs := [.int v30, .int v32]) (st := []) 1 rfl (Or.inl ⟨rfl, rfl⟩) rfl rfl (Nat.le_of_ble_eq_true rfl) (Nat.le_of_ble_eq_true rfl) (g_Layout_join hS33) (f_Layout_join sp (d + 2) N S31 q24 v30 v32 _ hS33) ?_
      refine pE_weak [none, none, none, none, none, none] trivial ?_
      exact f_Reader_readJoint_106 sp d N S33 _ h
def F_Reader_readJoint (N : Nat) (S : pm_S) (a : Nat) (p0 : Nat) : Option pm_S :=
    if rcv S a 7 = true then
    ((oR S p0 4 1).bind fun oq1 => match oq1 with
    | none => none
    | some q1 =>
    (F_Ledger_size N S q1).bind fun (v3, S2) =>
    (F_Reader_number N S2 a 0 (v3 - 1)).bind fun (v5, S4) =>
    (F_Plan_pairsOf N S4 p0 v5).bind fun (v7, S6) =>
    (F_Reader_number N S6 a 0 (v7 - 1)).bind fun (v9, S8) =>
    (oR S8 p0 4 1).bind fun oq10 => match oq10 with
    | none => none
    | some q10 =>
    (F_Ledger_size N S8 q10).bind fun (v12, S11) =>
    (F_Reader_number N S11 a 0 (v12 - 1)).bind fun (v14, S13) =>
    (F_Plan_meet N S13 p0 v5 v14).bind fun (v16, S15) =>
    if v16 = 0 then
    ((oI S15 a 7 1).bind fun v17 =>
    (F_Reader_fail N S15 a (v17 - 1)).bind fun S18 =>
    F_Reader_readJoint_64 N a p0 v5 v9 v14 S18)
    else
    F_Reader_readJoint_64 N a p0 v5 v9 v14 S15)
    else none
theorem g_Reader_readJoint {N : Nat} {S : pm_S} {a : Nat} {p0 : Nat} {r : pm_S} (h : F_Reader_readJoint N S a p0 = some r) : rcv S a 7 = true := by
  unfold F_Reader_readJoint at h
  by_cases c : rcv S a 7 = true
  · exact c
  · rw [if_neg c] at h; cases h
set_option maxHeartbeats 4000000 in
set_option maxRecDepth 20000 in
theorem f_Reader_readJoint (sp : pm_I → List Value → pm_S → pm_O → Prop) (d N : Nat) (S : pm_S) (a : Nat) (p0 : Nat) (r : pm_S) (h : F_Reader_readJoint N S a p0 = some r) : pm_rel pG sp (d + 5) mi_Reader_readJoint [.ref a, .ref p0] S (none, r) := by
  have hg := g_Reader_readJoint h
  unfold F_Reader_readJoint at h
  rw [if_pos hg] at h
  refine pE_rel (d := d + 4) ?_
  show pmE pG _ mi_Reader_readJoint 0 [some (.ref a), some (.ref p0), none, none, none, none] [] S _
  refine pE_jump 3 (pc' := 3) (ls' := [some (.ref a), some (.ref p0), none, none, none, none]) (st' := [.ref p0, .int 0, .ref a]) (fun _ => rfl) ?_
  obtain ⟨oq1, hq1, h⟩ := obind h
  cases oq1 with
  | none => cases h
  | some q1 =>
    try dsimp only at h
    refine pE_gfS rfl rfl hq1 ?_
    obtain ⟨⟨v3, S2⟩, hv3, h⟩ := obind h
    try dsimp only at h
    refine pE_iv (Bs := []) (st := [.int 0, .ref a]) 1 rfl (Or.inl ⟨rfl, rfl⟩) rfl rfl (Nat.le_of_ble_eq_true rfl) (Nat.le_of_ble_eq_true rfl) (g_Ledger_size hv3) (f_Ledger_size sp (d + 3) N S q1 _ hv3) ?_
    refine pE_jump 2 (pc' := 11) (ls' := [some (.ref a), some (.ref p0), none, none, none, none]) (st' := [.int (v3 - 1), .int 0, .ref a]) (fun _ => rfl) ?_
    obtain ⟨⟨v5, S4⟩, hv5, h⟩ := obind h
    try dsimp only at h
    refine pE_iv (Bs := [.int 0, .int (v3 - 1)]) (st := []) 1 rfl (Or.inl ⟨rfl, rfl⟩) rfl rfl (Nat.le_of_ble_eq_true rfl) (Nat.le_of_ble_eq_true rfl) (g_Reader_number hv5) (f_Reader_number sp d N S2 a 0 (v3 - 1) _ hv5) ?_
    refine pE_jump 5 (pc' := 19) (ls' := [some (.ref a), some (.ref p0), some (.int v5), none, none, none]) (st' := [.int v5, .ref p0, .int 0, .ref a]) (fun _ => rfl) ?_
    obtain ⟨⟨v7, S6⟩, hv7, h⟩ := obind h
    try dsimp only at h
    refine pE_iv (Bs := [.int v5]) (st := [.int 0, .ref a]) 1 rfl (Or.inl ⟨rfl, rfl⟩) rfl rfl (Nat.le_of_ble_eq_true rfl) (Nat.le_of_ble_eq_true rfl) (g_Plan_pairsOf hv7) (f_Plan_pairsOf sp (d + 2) N S4 p0 v5 _ hv7) ?_
    refine pE_jump 2 (pc' := 24) (ls' := [some (.ref a), some (.ref p0), some (.int v5), none, none, none]) (st' := [.int (v7 - 1), .int 0, .ref a]) (fun _ => rfl) ?_
    obtain ⟨⟨v9, S8⟩, hv9, h⟩ := obind h
    try dsimp only at h
    refine pE_iv (Bs := [.int 0, .int (v7 - 1)]) (st := []) 1 rfl (Or.inl ⟨rfl, rfl⟩) rfl rfl (Nat.le_of_ble_eq_true rfl) (Nat.le_of_ble_eq_true rfl) (g_Reader_number hv9) (f_Reader_number sp d N S6 a 0 (v7 - 1) _ hv9) ?_
    refine pE_jump 4 (pc' := 31) (ls' := [some (.ref a), some (.ref p0), some (.int v5), some (.int v9), none, none]) (st' := [.ref p0, .int 0, .ref a]) (fun _ => rfl) ?_
    obtain ⟨oq10, hq10, h⟩ := obind h
    cases oq10 with
    | none => cases h
    | some q10 =>
      try dsimp only at h
      refine pE_gfS rfl rfl hq10 ?_
      obtain ⟨⟨v12, S11⟩, hv12, h⟩ := obind h
      try dsimp only at h
      refine pE_iv (Bs := []) (st := [.int 0, .ref a]) 1 rfl (Or.inl ⟨rfl, rfl⟩) rfl rfl (Nat.le_of_ble_eq_true rfl) (Nat.le_of_ble_eq_true rfl) (g_Ledger_size hv12) (f_Ledger_size sp (d + 3) N S8 q10 _ hv12) ?_
      refine pE_jump 2 (pc' := 39) (ls' := [some (.ref a), some (.ref p0), some (.int v5), some (.int v9), none, none]) (st' := [.int (v12 - 1), .int 0, .ref a]) (fun _ => rfl) ?_
      obtain ⟨⟨v14, S13⟩, hv14, h⟩ := obind h
      try dsimp only at h
      refine pE_iv (Bs := [.int 0, .int (v12 - 1)]) (st := []) 1 rfl (Or.inl ⟨rfl, rfl⟩) rfl rfl (Nat.le_of_ble_eq_true rfl) (Nat.le_of_ble_eq_true rfl) (g_Reader_number hv14) (f_Reader_number sp d N S11 a 0 (v12 - 1) _ hv14) ?_
      refine pE_jump 4 (pc' := 48) (ls' := [some (.ref a), some (.ref p0), some (.int v5), some (.int v9), some (.int v14), none]) (st' := [.int v14, .int v5, .ref p0]) (fun _ => rfl) ?_
      obtain ⟨⟨v16, S15⟩, hv16, h⟩ := obind h
      try dsimp only at h
      refine pE_iv (Bs := [.int v5, .int v14]) (st := []) 1 rfl (Or.inl ⟨rfl, rfl⟩) rfl rfl (Nat.le_of_ble_eq_true rfl) (Nat.le_of_ble_eq_true rfl) (g_Plan_meet hv16) (f_Plan_meet sp (d + 1) N S13 p0 v5 v14 _ hv16) ?_
      refine pE_br (¬ v16 = 0) rfl rfl (fun c35 => ?_) (fun c35 => ?_)
      · rw [if_neg c35] at h
        exact f_Reader_readJoint_64 sp d N a p0 v5 v9 v14 S15 _ h
      · have c35 := Decidable.not_not.mp c35
        rw [if_pos c35] at h
        refine pE_jump 2 (pc' := 56) (ls' := [some (.ref a), some (.ref p0), some (.int v5), some (.int v9), some (.int v14), none]) (st' := [.ref a, .ref a]) (fun _ => rfl) ?_
        obtain ⟨v17, hv17, h⟩ := obind h
        refine pE_gfI rfl rfl hv17 ?_
        refine pE_jump 2 (pc' := 61) (ls' := [some (.ref a), some (.ref p0), some (.int v5), some (.int v9), some (.int v14), none]) (st' := [.int (v17 - 1), .ref a]) (fun _ => rfl) ?_
        obtain ⟨S18, hS18, h⟩ := obind h
        refine pE_iv (Bs := [.int (v17 - 1)]) (st := []) 1 rfl (Or.inl ⟨rfl, rfl⟩) rfl rfl (Nat.le_of_ble_eq_true rfl) (Nat.le_of_ble_eq_true rfl) (g_Reader_fail hS18) (f_Reader_fail sp (d + 3) N S15 a (v17 - 1) _ hS18) ?_
        exact f_Reader_readJoint_64 sp d N a p0 v5 v9 v14 S18 _ h
def F_Layout_hang (N : Nat) (S : pm_S) (a : Nat) (p0 : Int32) (p1 : Int32) : Option pm_S :=
    if rcv S a 1 = true then
    ((oR S a 1 3).bind fun oq1 => match oq1 with
    | none => none
    | some q1 =>
    (oR S a 1 2).bind fun oq5 => match oq5 with
    | none => none
    | some q5 =>
    (F_BP_valueAt N S q5 p0).bind fun (v7, S6) =>
    (F_BP_setAt N S6 q1 v7 (-1)).bind fun S8 =>
    (oR S8 a 1 2).bind fun oq9 => match oq9 with
    | none => none
    | some q9 =>
    (oR S8 a 1 3).bind fun oq13 => match oq13 with
    | none => none
    | some q13 =>
    (F_BP_valueAt N S8 q13 p1).bind fun (v15, S14) =>
    (F_BP_setAt N S14 q9 v15 (-1)).bind fun S16 =>
    (oR S16 a 1 2).bind fun oq17 => match oq17 with
    | none => none
    | some q17 =>
    (F_BP_setAt N S16 q17 p0 p1).bind fun S18 =>
    (oR S18 a 1 3).bind fun oq19 => match oq19 with
    | none => none
    | some q19 =>
    (F_BP_setAt N S18 q19 p1 p0).bind fun S20 =>
    some S20)
    else none
theorem g_Layout_hang {N : Nat} {S : pm_S} {a : Nat} {p0 : Int32} {p1 : Int32} {r : pm_S} (h : F_Layout_hang N S a p0 p1 = some r) : rcv S a 1 = true := by
  unfold F_Layout_hang at h
  by_cases c : rcv S a 1 = true
  · exact c
  · rw [if_neg c] at h; cases h
set_option maxHeartbeats 4000000 in
set_option maxRecDepth 20000 in
theorem f_Layout_hang (sp : pm_I → List Value → pm_S → pm_O → Prop) (d N : Nat) (S : pm_S) (a : Nat) (p0 : Int32) (p1 : Int32) (r : pm_S) (h : F_Layout_hang N S a p0 p1 = some r) : pm_rel pG sp (d + 2) mi_Layout_hang [.ref a, .int p0, .int p1] S (none, r) := by
  have hg := g_Layout_hang h
  unfold F_Layout_hang at h
  rw [if_pos hg] at h
  refine pE_rel (d := d + 1) ?_
  show pmE pG _ mi_Layout_hang 0 [some (.ref a), some (.int p0), some (.int p1)] [] S _
  refine pE_jump 1 (pc' := 1) (ls' := [some (.ref a), some (.int p0), some (.int p1)]) (st' := [.ref a]) (fun _ => rfl) ?_
  obtain ⟨oq1, hq1, h⟩ := obind h
  cases oq1 with
  | none => cases h
  | some q1 =>
    try dsimp only at h
    refine pE_gfS rfl rfl hq1 ?_
    refine pE_jump 1 (pc' := 5) (ls' := [some (.ref a), some (.int p0), some (.int p1)]) (st' := [.ref a, .ref q1]) (fun _ => rfl) ?_
    obtain ⟨oq5, hq5, h⟩ := obind h
    cases oq5 with
    | none => cases h
    | some q5 =>
      try dsimp only at h
      refine pE_gfS rfl rfl hq5 ?_
      refine pE_jump 1 (pc' := 9) (ls' := [some (.ref a), some (.int p0), some (.int p1)]) (st' := [.int p0, .ref q5, .ref q1]) (fun _ => rfl) ?_
      obtain ⟨⟨v7, S6⟩, hv7, h⟩ := obind h
      try dsimp only at h
      refine pE_is (Bs := [.ref q5, .int p0]) (st := [.ref q1]) rfl rfl rfl (Nat.le_of_ble_eq_true rfl) (Nat.le_of_ble_eq_true rfl) (f_BP_valueAt sp d N S q5 p0 _ hv7) ?_
      refine pE_jump 1 (pc' := 13) (ls' := [some (.ref a), some (.int p0), some (.int p1)]) (st' := [.int (-1), .int v7, .ref q1]) (fun _ => rfl) ?_
      obtain ⟨S8, hS8, h⟩ := obind h
      refine pE_is (Bs := [.ref q1, .int v7, .int (-1)]) (st := []) rfl rfl rfl (Nat.le_of_ble_eq_true rfl) (Nat.le_of_ble_eq_true rfl) (f_BP_setAt sp d N S6 q1 v7 (-1) _ hS8) ?_
      refine pE_jump 1 (pc' := 17) (ls' := [some (.ref a), some (.int p0), some (.int p1)]) (st' := [.ref a]) (fun _ => rfl) ?_
      obtain ⟨oq9, hq9, h⟩ := obind h
      cases oq9 with
      | none => cases h
      | some q9 =>
        try dsimp only at h
        refine pE_gfS rfl rfl hq9 ?_
        refine pE_jump 1 (pc' := 21) (ls' := [some (.ref a), some (.int p0), some (.int p1)]) (st' := [.ref a, .ref q9]) (fun _ => rfl) ?_
        obtain ⟨oq13, hq13, h⟩ := obind h
        cases oq13 with
        | none => cases h
        | some q13 =>
          try dsimp only at h
          refine pE_gfS rfl rfl hq13 ?_
          refine pE_jump 1 (pc' := 25) (ls' := [some (.ref a), some (.int p0), some (.int p1)]) (st' := [.int p1, .ref q13, .ref q9]) (fun _ => rfl) ?_
          obtain ⟨⟨v15, S14⟩, hv15, h⟩ := obind h
          try dsimp only at h
          refine pE_is (Bs := [.ref q13, .int p1]) (st := [.ref q9]) rfl rfl rfl (Nat.le_of_ble_eq_true rfl) (Nat.le_of_ble_eq_true rfl) (f_BP_valueAt sp d N S8 q13 p1 _ hv15) ?_
          refine pE_jump 1 (pc' := 29) (ls' := [some (.ref a), some (.int p0), some (.int p1)]) (st' := [.int (-1), .int v15, .ref q9]) (fun _ => rfl) ?_
          obtain ⟨S16, hS16, h⟩ := obind h
          refine pE_is (Bs := [.ref q9, .int v15, .int (-1)]) (st := []) rfl rfl rfl (Nat.le_of_ble_eq_true rfl) (Nat.le_of_ble_eq_true rfl) (f_BP_setAt sp d N S14 q9 v15 (-1) _ hS16) ?_
          refine pE_jump 1 (pc' := 33) (ls' := [some (.ref a), some (.int p0), some (.int p1)]) (st' := [.ref a]) (fun _ => rfl) ?_
          obtain ⟨oq17, hq17, h⟩ := obind h
          cases oq17 with
          | none => cases h
          | some q17 =>
            try dsimp only at h
            refine pE_gfS rfl rfl hq17 ?_
            refine pE_jump 2 (pc' := 38) (ls' := [some (.ref a), some (.int p0), some (.int p1)]) (st' := [.int p1, .int p0, .ref q17]) (fun _ => rfl) ?_
            obtain ⟨S18, hS18, h⟩ := obind h
            refine pE_is (Bs := [.ref q17, .int p0, .int p1]) (st := []) rfl rfl rfl (Nat.le_of_ble_eq_true rfl) (Nat.le_of_ble_eq_true rfl) (f_BP_setAt sp d N S16 q17 p0 p1 _ hS18) ?_
            refine pE_jump 1 (pc' := 42) (ls' := [some (.ref a), some (.int p0), some (.int p1)]) (st' := [.ref a]) (fun _ => rfl) ?_
            obtain ⟨oq19, hq19, h⟩ := obind h
            cases oq19 with
            | none => cases h
            | some q19 =>
              try dsimp only at h
              refine pE_gfS rfl rfl hq19 ?_
              refine pE_jump 2 (pc' := 47) (ls' := [some (.ref a), some (.int p0), some (.int p1)]) (st' := [.int p0, .int p1, .ref q19]) (fun _ => rfl) ?_
              obtain ⟨S20, hS20, h⟩ := obind h
              refine pE_is (Bs := [.ref q19, .int p1, .int p0]) (st := []) rfl rfl rfl (Nat.le_of_ble_eq_true rfl) (Nat.le_of_ble_eq_true rfl) (f_BP_setAt sp d N S18 q19 p1 p0 _ hS20) ?_
              cases h
              exact pE_ret rfl rfl rfl
def F_Reader_readHouse_59 (N : Nat)   (S : pm_S) : Option pm_S :=
    some S
set_option maxHeartbeats 4000000 in
set_option maxRecDepth 20000 in
theorem f_Reader_readHouse_59 (sp : pm_I → List Value → pm_S → pm_O → Prop) (d N : Nat)   (S : pm_S)  (r : pm_S) (h : F_Reader_readHouse_59 N   S = some r) : pmE pG (pm_rel pG sp (d + 4)) mi_Reader_readHouse 59 [none, none, none, none, none] [] S (none, r) := by
  unfold F_Reader_readHouse_59 at h
  cases h
  exact pE_ret rfl rfl rfl
def F_Reader_readHouse (N : Nat) (S : pm_S) (a : Nat) (p0 : Nat) : Option pm_S :=
    if rcv S a 7 = true then
    ((oR S p0 4 1).bind fun oq1 => match oq1 with
    | none => none
    | some q1 =>
    (F_Ledger_size N S q1).bind fun (v3, S2) =>
    (F_Reader_number N S2 a 0 (v3 - 1)).bind fun (v5, S4) =>
    (F_Plan_pairsOf N S4 p0 v5).bind fun (v7, S6) =>
    (F_Reader_number N S6 a 0 (v7 - 1)).bind fun (v9, S8) =>
    (F_Reader_number N S8 a 0 9).bind fun (v11, S10) =>
    (oI S10 a 7 2).bind fun v12 =>
    if v12 = (-1) then
    ((oR S10 p0 4 4).bind fun oq13 => match oq13 with
    | none => none
    | some q13 =>
    (F_BP_siteOf N S10 v5 v9).bind fun (v17, S16) =>
    (F_Layout_hang N S16 q13 v17 v11).bind fun S18 =>
    F_Reader_readHouse_59 N S18)
    else
    F_Reader_readHouse_59 N S10)
    else none
theorem g_Reader_readHouse {N : Nat} {S : pm_S} {a : Nat} {p0 : Nat} {r : pm_S} (h : F_Reader_readHouse N S a p0 = some r) : rcv S a 7 = true := by
  unfold F_Reader_readHouse at h
  by_cases c : rcv S a 7 = true
  · exact c
  · rw [if_neg c] at h; cases h
set_option maxHeartbeats 4000000 in
set_option maxRecDepth 20000 in
theorem f_Reader_readHouse (sp : pm_I → List Value → pm_S → pm_O → Prop) (d N : Nat) (S : pm_S) (a : Nat) (p0 : Nat) (r : pm_S) (h : F_Reader_readHouse N S a p0 = some r) : pm_rel pG sp (d + 5) mi_Reader_readHouse [.ref a, .ref p0] S (none, r) := by
  have hg := g_Reader_readHouse h
  unfold F_Reader_readHouse at h
  rw [if_pos hg] at h
  refine pE_rel (d := d + 4) ?_
  show pmE pG _ mi_Reader_readHouse 0 [some (.ref a), some (.ref p0), none, none, none] [] S _
  refine pE_jump 3 (pc' := 3) (ls' := [some (.ref a), some (.ref p0), none, none, none]) (st' := [.ref p0, .int 0, .ref a]) (fun _ => rfl) ?_
  obtain ⟨oq1, hq1, h⟩ := obind h
  cases oq1 with
  | none => cases h
  | some q1 =>
    try dsimp only at h
    refine pE_gfS rfl rfl hq1 ?_
    obtain ⟨⟨v3, S2⟩, hv3, h⟩ := obind h
    try dsimp only at h
    refine pE_iv (Bs := []) (st := [.int 0, .ref a]) 1 rfl (Or.inl ⟨rfl, rfl⟩) rfl rfl (Nat.le_of_ble_eq_true rfl) (Nat.le_of_ble_eq_true rfl) (g_Ledger_size hv3) (f_Ledger_size sp (d + 3) N S q1 _ hv3) ?_
    refine pE_jump 2 (pc' := 11) (ls' := [some (.ref a), some (.ref p0), none, none, none]) (st' := [.int (v3 - 1), .int 0, .ref a]) (fun _ => rfl) ?_
    obtain ⟨⟨v5, S4⟩, hv5, h⟩ := obind h
    try dsimp only at h
    refine pE_iv (Bs := [.int 0, .int (v3 - 1)]) (st := []) 1 rfl (Or.inl ⟨rfl, rfl⟩) rfl rfl (Nat.le_of_ble_eq_true rfl) (Nat.le_of_ble_eq_true rfl) (g_Reader_number hv5) (f_Reader_number sp d N S2 a 0 (v3 - 1) _ hv5) ?_
    refine pE_jump 5 (pc' := 19) (ls' := [some (.ref a), some (.ref p0), some (.int v5), none, none]) (st' := [.int v5, .ref p0, .int 0, .ref a]) (fun _ => rfl) ?_
    obtain ⟨⟨v7, S6⟩, hv7, h⟩ := obind h
    try dsimp only at h
    refine pE_iv (Bs := [.int v5]) (st := [.int 0, .ref a]) 1 rfl (Or.inl ⟨rfl, rfl⟩) rfl rfl (Nat.le_of_ble_eq_true rfl) (Nat.le_of_ble_eq_true rfl) (g_Plan_pairsOf hv7) (f_Plan_pairsOf sp (d + 2) N S4 p0 v5 _ hv7) ?_
    refine pE_jump 2 (pc' := 24) (ls' := [some (.ref a), some (.ref p0), some (.int v5), none, none]) (st' := [.int (v7 - 1), .int 0, .ref a]) (fun _ => rfl) ?_
    obtain ⟨⟨v9, S8⟩, hv9, h⟩ := obind h
    try dsimp only at h
    refine pE_iv (Bs := [.int 0, .int (v7 - 1)]) (st := []) 1 rfl (Or.inl ⟨rfl, rfl⟩) rfl rfl (Nat.le_of_ble_eq_true rfl) (Nat.le_of_ble_eq_true rfl) (g_Reader_number hv9) (f_Reader_number sp d N S6 a 0 (v7 - 1) _ hv9) ?_
    refine pE_jump 4 (pc' := 32) (ls' := [some (.ref a), some (.ref p0), some (.int v5), some (.int v9), none]) (st' := [.int 9, .int 0, .ref a]) (fun _ => rfl) ?_
    obtain ⟨⟨v11, S10⟩, hv11, h⟩ := obind h
    try dsimp only at h
    refine pE_iv (Bs := [.int 0, .int 9]) (st := []) 1 rfl (Or.inl ⟨rfl, rfl⟩) rfl rfl (Nat.le_of_ble_eq_true rfl) (Nat.le_of_ble_eq_true rfl) (g_Reader_number hv11) (f_Reader_number sp d N S8 a 0 9 _ hv11) ?_
    refine pE_jump 2 (pc' := 38) (ls' := [some (.ref a), some (.ref p0), some (.int v5), some (.int v9), some (.int v11)]) (st' := [.ref a]) (fun _ => rfl) ?_
    obtain ⟨v12, hv12, h⟩ := obind h
    refine pE_gfI rfl rfl hv12 ?_
    refine pE_jump 1 (pc' := 42) (ls' := [some (.ref a), some (.ref p0), some (.int v5), some (.int v9), some (.int v11)]) (st' := [.int (-1), .int v12]) (fun _ => rfl) ?_
    refine pE_br (¬ v12 = (-1)) rfl rfl (fun c19 => ?_) (fun c19 => ?_)
    · rw [if_neg c19] at h
      refine pE_weak [none, none, none, none, none] trivial ?_
      exact f_Reader_readHouse_59 sp d N S10 _ h
    · have c19 := Decidable.not_not.mp c19
      rw [if_pos c19] at h
      refine pE_jump 1 (pc' := 46) (ls' := [some (.ref a), some (.ref p0), some (.int v5), some (.int v9), some (.int v11)]) (st' := [.ref p0]) (fun _ => rfl) ?_
      obtain ⟨oq13, hq13, h⟩ := obind h
      cases oq13 with
      | none => cases h
      | some q13 =>
        try dsimp only at h
        refine pE_gfS rfl rfl hq13 ?_
        refine pE_jump 2 (pc' := 51) (ls' := [some (.ref a), some (.ref p0), some (.int v5), some (.int v9), some (.int v11)]) (st' := [.int v9, .int v5, .ref q13]) (fun _ => rfl) ?_
        obtain ⟨⟨v17, S16⟩, hv17, h⟩ := obind h
        try dsimp only at h
        refine pE_is (Bs := [.int v5, .int v9]) (st := [.ref q13]) rfl rfl rfl (Nat.le_of_ble_eq_true rfl) (Nat.le_of_ble_eq_true rfl) (f_BP_siteOf sp (d + 3) N S10 v5 v9 _ hv17) ?_
        refine pE_jump 1 (pc' := 56) (ls' := [some (.ref a), some (.ref p0), some (.int v5), some (.int v9), some (.int v11)]) (st' := [.int v11, .int v17, .ref q13]) (fun _ => rfl) ?_
        obtain ⟨S18, hS18, h⟩ := obind h
        refine pE_iv (Bs := [.int v17, .int v11]) (st := []) 1 rfl (Or.inl ⟨rfl, rfl⟩) rfl rfl (Nat.le_of_ble_eq_true rfl) (Nat.le_of_ble_eq_true rfl) (g_Layout_hang hS18) (f_Layout_hang sp (d + 2) N S16 q13 v17 v11 _ hS18) ?_
        refine pE_weak [none, none, none, none, none] trivial ?_
        exact f_Reader_readHouse_59 sp d N S18 _ h
