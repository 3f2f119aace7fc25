def F_Reader_readStatement_121 (N : Nat)   (S : pm_S) : Option pm_S :=
    some S
set_option maxHeartbeats 4000000 in
set_option maxRecDepth 20000 in
theorem f_Reader_readStatement_121 (sp : pm_I → List Value → pm_S → pm_O → Prop) (d N : Nat)   (S : pm_S)  (r : pm_S) (h : F_Reader_readStatement_121 N   S = some r) : pmE pG (pm_rel pG sp (d + 5)) mi_Reader_readStatement 121 [none, none, none] [] S (none, r) := by
  unfold F_Reader_readStatement_121 at h
  cases h
  exact pE_ret rfl rfl rfl
def F_Reader_readStatement_78 (N : Nat)  (x0 : Nat) (x1 : Nat) (x2 : Int32) (S : pm_S) : Option pm_S :=
    (oI S x0 7 1).bind fun v14 =>
    (wF S x0 7 1 .int (.int (v14 + 1))).bind fun S15 =>
    if x2 = 99 then
    ((F_Reader_readCable N S15 x0 x1).bind fun S16 =>
    F_Reader_readStatement_121 N S16)
    else
    (if x2 = 106 then
    ((F_Reader_readJoint N S15 x0 x1).bind fun S17 =>
    F_Reader_readStatement_121 N S17)
    else
    ((F_Reader_readHouse N S15 x0 x1).bind fun S18 =>
    F_Reader_readStatement_121 N S18))
set_option maxHeartbeats 4000000 in
set_option maxRecDepth 20000 in
theorem f_Reader_readStatement_78 (sp : pm_I → List Value → pm_S → pm_O → Prop) (d N : Nat)  (x0 : Nat) (x1 : Nat) (x2 : Int32) (S : pm_S)  (r : pm_S) (h : F_Reader_readStatement_78 N  x0 x1 x2 S = some r) : pmE pG (pm_rel pG sp (d + 5)) mi_Reader_readStatement 78 [some (.ref x0), some (.ref x1), some (.int x2)] [] S (none, r) := by
  unfold F_Reader_readStatement_78 at h
  refine pE_jump 2 (pc' := 80) (ls' := [some (.ref x0), some (.ref x1), some (.int x2)]) (st' := [.ref x0, .ref x0]) (fun _ => rfl) ?_
  obtain ⟨v14, hv14, h⟩ := obind h
  refine pE_gfI rfl rfl hv14 ?_
  refine pE_jump 2 (pc' := 85) (ls' := [some (.ref x0), some (.ref x1), some (.int x2)]) (st' := [.int (v14 + 1), .ref x0]) (fun _ => rfl) ?_
  obtain ⟨S15, hS15, h⟩ := obind h
  refine pE_pf rfl rfl rfl hS15 ?_
  refine pE_jump 2 (pc' := 91) (ls' := [some (.ref x0), some (.ref x1), some (.int x2)]) (st' := [.int 99, .int x2]) (fun _ => rfl) ?_
  refine pE_br (¬ x2 = 99) rfl rfl (fun c20 => ?_) (fun c20 => ?_)
  · rw [if_neg c20] at h
    refine pE_jump 2 (pc' := 105) (ls' := [some (.ref x0), some (.ref x1), some (.int x2)]) (st' := [.int 106, .int x2]) (fun _ => rfl) ?_
    refine pE_br (¬ x2 = 106) rfl rfl (fun c19 => ?_) (fun c19 => ?_)
    · rw [if_neg c19] at h
      refine pE_jump 2 (pc' := 118) (ls' := [some (.ref x0), some (.ref x1), some (.int x2)]) (st' := [.ref x1, .ref x0]) (fun _ => rfl) ?_
      obtain ⟨S18, hS18, h⟩ := obind h
      refine pE_iv (Bs := [.ref x1]) (st := []) 1 rfl (Or.inl ⟨rfl, rfl⟩) rfl rfl (Nat.le_of_ble_eq_true rfl) (Nat.le_of_ble_eq_true rfl) (g_Reader_readHouse hS18) (f_Reader_readHouse sp d N S15 x0 x1 _ hS18) ?_
      refine pE_weak [none, none, none] trivial ?_
      exact f_Reader_readStatement_121 sp d N S18 _ h
    · have c19 := Decidable.not_not.mp c19
      rw [if_pos c19] at h
      refine pE_jump 2 (pc' := 110) (ls' := [some (.ref x0), some (.ref x1), some (.int x2)]) (st' := [.ref x1, .ref x0]) (fun _ => rfl) ?_
      obtain ⟨S17, hS17, h⟩ := obind h
      refine pE_iv (Bs := [.ref x1]) (st := []) 1 rfl (Or.inl ⟨rfl, rfl⟩) rfl rfl (Nat.le_of_ble_eq_true rfl) (Nat.le_of_ble_eq_true rfl) (g_Reader_readJoint hS17) (f_Reader_readJoint sp d N S15 x0 x1 _ hS17) ?_
      refine pE_jump 1 (pc' := 121) (ls' := [some (.ref x0), some (.ref x1), some (.int x2)]) (st' := []) (fun _ => rfl) ?_
      refine pE_weak [none, none, none] trivial ?_
      exact f_Reader_readStatement_121 sp d N S17 _ h
  · have c20 := Decidable.not_not.mp c20
    rw [if_pos c20] at h
    refine pE_jump 2 (pc' := 96) (ls' := [some (.ref x0), some (.ref x1), some (.int x2)]) (st' := [.ref x1, .ref x0]) (fun _ => rfl) ?_
    obtain ⟨S16, hS16, h⟩ := obind h
    refine pE_iv (Bs := [.ref x1]) (st := []) 1 rfl (Or.inl ⟨rfl, rfl⟩) rfl rfl (Nat.le_of_ble_eq_true rfl) (Nat.le_of_ble_eq_true rfl) (g_Reader_readCable hS16) (f_Reader_readCable sp d N S15 x0 x1 _ hS16) ?_
    refine pE_jump 1 (pc' := 121) (ls' := [some (.ref x0), some (.ref x1), some (.int x2)]) (st' := []) (fun _ => rfl) ?_
    refine pE_weak [none, none, none] trivial ?_
    exact f_Reader_readStatement_121 sp d N S16 _ h
def F_Reader_readStatement (N : Nat) (S : pm_S) (a : Nat) (p0 : Nat) : Option pm_S :=
    if rcv S a 7 = true then
    ((oR S a 7 0).bind fun oq1 => match oq1 with
    | none => none
    | some q1 =>
    (oI S a 7 1).bind fun v3 =>
    (F_Tape_byteAt N S q1 v3).bind fun (v5, S4) =>
    if v5 = 59 then
    ((oI S4 a 7 1).bind fun v6 =>
    (wF S4 a 7 1 .int (.int (v6 + 1))).bind fun S7 =>
    (F_Reader_skipBlanks N S7 a).bind fun S8 =>
    (oR S8 a 7 0).bind fun oq9 => match oq9 with
    | none => none
    | some q9 =>
    (oI S8 a 7 1).bind fun v11 =>
    (F_Tape_byteAt N S8 q9 v11).bind fun (v13, S12) =>
    if v13 = 99 then
    F_Reader_readStatement_78 N a p0 v13 S12
    else
    (if v13 = 106 then
    F_Reader_readStatement_78 N a p0 v13 S12
    else
    (if v13 = 104 then
    F_Reader_readStatement_78 N a p0 v13 S12
    else
    ((oI S12 a 7 1).bind fun v21 =>
    (F_Reader_fail N S12 a v21).bind fun S22 =>
    some S22))))
    else
    ((oI S4 a 7 1).bind fun v26 =>
    (F_Reader_fail N S4 a v26).bind fun S27 =>
    some S27))
    else none
theorem g_Reader_readStatement {N : Nat} {S : pm_S} {a : Nat} {p0 : Nat} {r : pm_S} (h : F_Reader_readStatement N S a p0 = some r) : rcv S a 7 = true := by
  unfold F_Reader_readStatement at h
  by_cases c : rcv S a 7 = true
  · exact c
  · rw [if_neg c] at h; cases h
set_option maxHeartbeats 4000000 in
set_option maxRecDepth 20000 in
theorem f_Reader_readStatement (sp : pm_I → List Value → pm_S → pm_O → Prop) (d N : Nat) (S : pm_S) (a : Nat) (p0 : Nat) (r : pm_S) (h : F_Reader_readStatement N S a p0 = some r) : pm_rel pG sp (d + 6) mi_Reader_readStatement [.ref a, .ref p0] S (none, r) := by
  have hg := g_Reader_readStatement h
  unfold F_Reader_readStatement at h
  rw [if_pos hg] at h
  refine pE_rel (d := d + 5) ?_
  show pmE pG _ mi_Reader_readStatement 0 [some (.ref a), some (.ref p0), none] [] S _
  refine pE_jump 1 (pc' := 1) (ls' := [some (.ref a), some (.ref p0), none]) (st' := [.ref a]) (fun _ => rfl) ?_
  obtain ⟨oq1, hq1, h⟩ := obind h
  cases oq1 with
  | none => cases h
  | some q1 =>
    try dsimp only at h
    refine pE_gfS rfl rfl hq1 ?_
    refine pE_jump 1 (pc' := 5) (ls' := [some (.ref a), some (.ref p0), none]) (st' := [.ref a, .ref q1]) (fun _ => rfl) ?_
    obtain ⟨v3, hv3, h⟩ := obind h
    refine pE_gfI rfl rfl hv3 ?_
    obtain ⟨⟨v5, S4⟩, hv5, h⟩ := obind h
    try dsimp only at h
    refine pE_iv (Bs := [.int v3]) (st := []) 1 rfl (Or.inl ⟨rfl, rfl⟩) rfl rfl (Nat.le_of_ble_eq_true rfl) (Nat.le_of_ble_eq_true rfl) (g_Tape_byteAt hv5) (f_Tape_byteAt sp (d + 3) N S q1 v3 _ hv5) ?_
    refine pE_jump 1 (pc' := 13) (ls' := [some (.ref a), some (.ref p0), none]) (st' := [.int 59, .int v5]) (fun _ => rfl) ?_
    refine pE_br (v5 = 59) rfl rfl (fun c28 => ?_) (fun c28 => ?_)
    · rw [if_pos c28] at h
      refine pE_jump 2 (pc' := 27) (ls' := [some (.ref a), some (.ref p0), none]) (st' := [.ref a, .ref a]) (fun _ => rfl) ?_
      obtain ⟨v6, hv6, h⟩ := obind h
      refine pE_gfI rfl rfl hv6 ?_
      refine pE_jump 2 (pc' := 32) (ls' := [some (.ref a), some (.ref p0), none]) (st' := [.int (v6 + 1), .ref a]) (fun _ => rfl) ?_
      obtain ⟨S7, hS7, h⟩ := obind h
      refine pE_pf rfl rfl rfl hS7 ?_
      refine pE_jump 1 (pc' := 36) (ls' := [some (.ref a), some (.ref p0), none]) (st' := [.ref a]) (fun _ => rfl) ?_
      obtain ⟨S8, hS8, h⟩ := obind h
      refine pE_iv (Bs := []) (st := []) 1 rfl (Or.inl ⟨rfl, rfl⟩) rfl rfl (Nat.le_of_ble_eq_true rfl) (Nat.le_of_ble_eq_true rfl) (g_Reader_skipBlanks hS8) (f_Reader_skipBlanks sp (d + 2) N S7 a _ hS8) ?_
      refine pE_jump 1 (pc' := 40) (ls' := [some (.ref a), some (.ref p0), none]) (st' := [.ref a]) (fun _ => rfl) ?_
      obtain ⟨oq9, hq9, h⟩ := obind h
      cases oq9 with
      | none => cases h
      | some q9 =>
        try dsimp only at h
        refine pE_gfS rfl rfl hq9 ?_
        refine pE_jump 1 (pc' := 44) (ls' := [some (.ref a), some (.ref p0), none]) (st' := [.ref a, .ref q9]) (fun _ => rfl) ?_
        obtain ⟨v11, hv11, h⟩ := obind h
        refine pE_gfI rfl rfl hv11 ?_
        obtain ⟨⟨v13, S12⟩, hv13, h⟩ := obind h
        try dsimp only at h
        refine pE_iv (Bs := [.int v11]) (st := []) 1 rfl (Or.inl ⟨rfl, rfl⟩) rfl rfl (Nat.le_of_ble_eq_true rfl) (Nat.le_of_ble_eq_true rfl) (g_Tape_byteAt hv13) (f_Tape_byteAt sp (d + 3) N S8 q9 v11 _ hv13) ?_
        refine pE_jump 3 (pc' := 54) (ls' := [some (.ref a), some (.ref p0), some (.int v13)]) (st' := [.int 99, .int v13]) (fun _ => rfl) ?_
        refine pE_br (v13 = 99) rfl rfl (fun c25 => ?_) (fun c25 => ?_)
        · rw [if_pos c25] at h
          exact f_Reader_readStatement_78 sp d N a p0 v13 S12 _ h
        · rw [if_neg c25] at h
          refine pE_jump 2 (pc' := 60) (ls' := [some (.ref a), some (.ref p0), some (.int v13)]) (st' := [.int 106, .int v13]) (fun _ => rfl) ?_
          refine pE_br (v13 = 106) rfl rfl (fun c24 => ?_) (fun c24 => ?_)
          · rw [if_pos c24] at h
            exact f_Reader_readStatement_78 sp d N a p0 v13 S12 _ h
          · rw [if_neg c24] at h
            refine pE_jump 2 (pc' := 66) (ls' := [some (.ref a), some (.ref p0), some (.int v13)]) (st' := [.int 104, .int v13]) (fun _ => rfl) ?_
            refine pE_br (v13 = 104) rfl rfl (fun c23 => ?_) (fun c23 => ?_)
            · rw [if_pos c23] at h
              exact f_Reader_readStatement_78 sp d N a p0 v13 S12 _ h
            · rw [if_neg c23] at h
              refine pE_jump 2 (pc' := 71) (ls' := [some (.ref a), some (.ref p0), some (.int v13)]) (st' := [.ref a, .ref a]) (fun _ => rfl) ?_
              obtain ⟨v21, hv21, h⟩ := obind h
              refine pE_gfI rfl rfl hv21 ?_
              obtain ⟨S22, hS22, h⟩ := obind h
              refine pE_iv (Bs := [.int v21]) (st := []) 1 rfl (Or.inl ⟨rfl, rfl⟩) rfl rfl (Nat.le_of_ble_eq_true rfl) (Nat.le_of_ble_eq_true rfl) (g_Reader_fail hS22) (f_Reader_fail sp (d + 4) N S12 a v21 _ hS22) ?_
              cases h
              exact pE_ret rfl rfl rfl
    · rw [if_neg c28] at h
      refine pE_jump 2 (pc' := 18) (ls' := [some (.ref a), some (.ref p0), none]) (st' := [.ref a, .ref a]) (fun _ => rfl) ?_
      obtain ⟨v26, hv26, h⟩ := obind h
      refine pE_gfI rfl rfl hv26 ?_
      obtain ⟨S27, hS27, h⟩ := obind h
      refine pE_iv (Bs := [.int v26]) (st := []) 1 rfl (Or.inl ⟨rfl, rfl⟩) rfl rfl (Nat.le_of_ble_eq_true rfl) (Nat.le_of_ble_eq_true rfl) (g_Reader_fail hS27) (f_Reader_fail sp (d + 4) N S4 a v26 _ hS27) ?_
      cases h
      exact pE_ret rfl rfl rfl
def F_Layout_copy (N : Nat) (S : pm_S) (a : Nat) (p0 : Nat) : Option pm_S :=
    if rcv S a 1 = true then
    ((oR S p0 1 0).bind fun oq1 => match oq1 with
    | none => none
    | some q1 =>
    (oR S a 1 0).bind fun oq3 => match oq3 with
    | none => none
    | some q3 =>
    (cP S q1 0 q3 0 56).bind fun S4 =>
    (oR S4 p0 1 1).bind fun oq5 => match oq5 with
    | none => none
    | some q5 =>
    (oR S4 a 1 1).bind fun oq7 => match oq7 with
    | none => none
    | some q7 =>
    (cP S4 q5 0 q7 0 56).bind fun S8 =>
    (oR S8 p0 1 2).bind fun oq9 => match oq9 with
    | none => none
    | some q9 =>
    (oR S8 a 1 2).bind fun oq11 => match oq11 with
    | none => none
    | some q11 =>
    (cP S8 q9 0 q11 0 56).bind fun S12 =>
    (oR S12 p0 1 3).bind fun oq13 => match oq13 with
    | none => none
    | some q13 =>
    (oR S12 a 1 3).bind fun oq15 => match oq15 with
    | none => none
    | some q15 =>
    (cP S12 q13 0 q15 0 10).bind fun S16 =>
    some S16)
    else none
theorem g_Layout_copy {N : Nat} {S : pm_S} {a : Nat} {p0 : Nat} {r : pm_S} (h : F_Layout_copy N S a p0 = some r) : rcv S a 1 = true := by
  unfold F_Layout_copy at h
  by_cases c : rcv S a 1 = true
  · exact c
  · rw [if_neg c] at h; cases h
set_option maxHeartbeats 4000000 in
set_option maxRecDepth 20000 in
theorem f_Layout_copy (sp : pm_I → List Value → pm_S → pm_O → Prop) (d N : Nat) (S : pm_S) (a : Nat) (p0 : Nat) (r : pm_S) (h : F_Layout_copy N S a p0 = some r) : pm_rel pG sp (d + 1) mi_Layout_copy [.ref a, .ref p0] S (none, r) := by
  have hg := g_Layout_copy h
  unfold F_Layout_copy at h
  rw [if_pos hg] at h
  refine pE_rel (d := d + 0) ?_
  show pmE pG _ mi_Layout_copy 0 [some (.ref a), some (.ref p0)] [] S _
  refine pE_jump 1 (pc' := 1) (ls' := [some (.ref a), some (.ref p0)]) (st' := [.ref p0]) (fun _ => rfl) ?_
  obtain ⟨oq1, hq1, h⟩ := obind h
  cases oq1 with
  | none => cases h
  | some q1 =>
    try dsimp only at h
    refine pE_gfS rfl rfl hq1 ?_
    refine pE_jump 2 (pc' := 6) (ls' := [some (.ref a), some (.ref p0)]) (st' := [.ref a, .int 0, .ref q1]) (fun _ => rfl) ?_
    obtain ⟨oq3, hq3, h⟩ := obind h
    cases oq3 with
    | none => cases h
    | some q3 =>
      try dsimp only at h
      refine pE_gfS rfl rfl hq3 ?_
      refine pE_jump 2 (pc' := 12) (ls' := [some (.ref a), some (.ref p0)]) (st' := [.int 56, .int 0, .ref q3, .int 0, .ref q1]) (fun _ => rfl) ?_
      obtain ⟨S4, hS4, h⟩ := obind h
      refine pE_cP rfl rfl (Nat.le_of_ble_eq_true rfl) hS4 ?_
      refine pE_jump 1 (pc' := 16) (ls' := [some (.ref a), some (.ref p0)]) (st' := [.ref p0]) (fun _ => rfl) ?_
      obtain ⟨oq5, hq5, h⟩ := obind h
      cases oq5 with
      | none => cases h
      | some q5 =>
        try dsimp only at h
        refine pE_gfS rfl rfl hq5 ?_
        refine pE_jump 2 (pc' := 21) (ls' := [some (.ref a), some (.ref p0)]) (st' := [.ref a, .int 0, .ref q5]) (fun _ => rfl) ?_
        obtain ⟨oq7, hq7, h⟩ := obind h
        cases oq7 with
        | none => cases h
        | some q7 =>
          try dsimp only at h
          refine pE_gfS rfl rfl hq7 ?_
          refine pE_jump 2 (pc' := 27) (ls' := [some (.ref a), some (.ref p0)]) (st' := [.int 56, .int 0, .ref q7, .int 0, .ref q5]) (fun _ => rfl) ?_
          obtain ⟨S8, hS8, h⟩ := obind h
          refine pE_cP rfl rfl (Nat.le_of_ble_eq_true rfl) hS8 ?_
          refine pE_jump 1 (pc' := 31) (ls' := [some (.ref a), some (.ref p0)]) (st' := [.ref p0]) (fun _ => rfl) ?_
          obtain ⟨oq9, hq9, h⟩ := obind h
          cases oq9 with
          | none => cases h
          | some q9 =>
            try dsimp only at h
            refine pE_gfS rfl rfl hq9 ?_
            refine pE_jump 2 (pc' := 36) (ls' := [some (.ref a), some (.ref p0)]) (st' := [.ref a, .int 0, .ref q9]) (fun _ => rfl) ?_
            obtain ⟨oq11, hq11, h⟩ := obind h
            cases oq11 with
            | none => cases h
            | some q11 =>
              try dsimp only at h
              refine pE_gfS rfl rfl hq11 ?_
              refine pE_jump 2 (pc' := 42) (ls' := [some (.ref a), some (.ref p0)]) (st' := [.int 56, .int 0, .ref q11, .int 0, .ref q9]) (fun _ => rfl) ?_
              obtain ⟨S12, hS12, h⟩ := obind h
              refine pE_cP rfl rfl (Nat.le_of_ble_eq_true rfl) hS12 ?_
              refine pE_jump 1 (pc' := 46) (ls' := [some (.ref a), some (.ref p0)]) (st' := [.ref p0]) (fun _ => rfl) ?_
              obtain ⟨oq13, hq13, h⟩ := obind h
              cases oq13 with
              | none => cases h
              | some q13 =>
                try dsimp only at h
                refine pE_gfS rfl rfl hq13 ?_
                refine pE_jump 2 (pc' := 51) (ls' := [some (.ref a), some (.ref p0)]) (st' := [.ref a, .int 0, .ref q13]) (fun _ => rfl) ?_
                obtain ⟨oq15, hq15, h⟩ := obind h
                cases oq15 with
                | none => cases h
                | some q15 =>
                  try dsimp only at h
                  refine pE_gfS rfl rfl hq15 ?_
                  refine pE_jump 2 (pc' := 57) (ls' := [some (.ref a), some (.ref p0)]) (st' := [.int 10, .int 0, .ref q15, .int 0, .ref q13]) (fun _ => rfl) ?_
                  obtain ⟨S16, hS16, h⟩ := obind h
                  refine pE_cP rfl rfl (Nat.le_of_ble_eq_true rfl) hS16 ?_
                  cases h
                  exact pE_ret rfl rfl rfl
def F_Plan_settleText_65 (N : Nat)   (S : pm_S) : Option pm_S :=
    some S
set_option maxHeartbeats 4000000 in
set_option maxRecDepth 20000 in
theorem f_Plan_settleText_65 (sp : pm_I → List Value → pm_S → pm_O → Prop) (d N : Nat)   (S : pm_S)  (r : pm_S) (h : F_Plan_settleText_65 N   S = some r) : pmE pG (pm_rel pG sp (d + 2)) mi_Plan_settleText 65 [none, none, none] [] S (none, r) := by
  unfold F_Plan_settleText_65 at h
  cases h
  exact pE_ret rfl rfl rfl
def F_Plan_settleText_57 (N : Nat) (rec15 : Int32 → Int32 → pm_S → Option pm_S) (x0 : Nat) (x2 : Int32) (t0 : Int32) (t1 : Int32) (S : pm_S) : Option pm_S :=
    rec15 (t1 + t0) (x2 + 1) S
set_option maxHeartbeats 4000000 in
set_option maxRecDepth 20000 in
theorem f_Plan_settleText_57 (sp : pm_I → List Value → pm_S → pm_O → Prop) (d N : Nat) (rec15 : Int32 → Int32 → pm_S → Option pm_S) (x0 : Nat) (x2 : Int32) (t0 : Int32) (t1 : Int32) (S : pm_S) (hrec15 : ∀ (y1 : Int32) (y2 : Int32) (U : pm_S) (r : pm_S), rec15 y1 y2 U = some r → pmE pG (pm_rel pG sp (d + 2)) mi_Plan_settleText 15 [some (.ref x0), some (.int y1), some (.int y2)] [] U (none, r)) (r : pm_S) (h : F_Plan_settleText_57 N rec15 x0 x2 t0 t1 S = some r) : pmE pG (pm_rel pG sp (d + 2)) mi_Plan_settleText 57 [some (.ref x0), none, some (.int x2)] [.int t0, .int t1] S (none, r) := by
  unfold F_Plan_settleText_57 at h
  refine pE_jump 4 (pc' := 15) (ls' := [some (.ref x0), some (.int (t1 + t0)), some (.int (x2 + 1))]) (st' := []) (fun _ => rfl) ?_
  exact hrec15 (t1 + t0) (x2 + 1) S _ h
def B_Plan_settleText_15 (N : Nat)  (rec15 : Int32 → Int32 → pm_S → Option pm_S) (x0 : Nat) (x1 : Int32) (x2 : Int32) (S : pm_S) : Option pm_S :=
    (oR S x0 4 1).bind fun oq5 => match oq5 with
    | none => none
    | some q5 =>
    (F_Ledger_size N S q5).bind fun (v7, S6) =>
    if v7 ≤ x2 then
    F_Plan_settleText_65 N S6
    else
    ((oR S6 x0 4 3).bind fun oq8 => match oq8 with
    | none => none
    | some q8 =>
    (F_BP_setAt N S6 q8 x2 x1).bind fun S9 =>
    (oR S9 x0 4 1).bind fun oq10 => match oq10 with
    | none => none
    | some q10 =>
    (F_Ledger_at N S9 q10 x2 0).bind fun (v12, S11) =>
    if v12 = 0 then
    ((F_Plan_pairsOf N S11 x0 x2).bind fun (v14, S13) =>
    F_Plan_settleText_57 N rec15 x0 x2 v14 x1 S13)
    else
    F_Plan_settleText_57 N rec15 x0 x2 0 x1 S11)
def F_Plan_settleText_15 (N : Nat)  (x0 : Nat) : Nat → Int32 → Int32 → pm_S → Option pm_S
  | 0 => fun _ _ _ => none
  | n + 1 => fun x1 x2 S => B_Plan_settleText_15 N  (F_Plan_settleText_15 N  x0 n) x0 x1 x2 S
set_option maxHeartbeats 4000000 in
set_option maxRecDepth 20000 in
theorem f_Plan_settleText_15 (sp : pm_I → List Value → pm_S → pm_O → Prop) (d N : Nat)  (x0 : Nat)  : ∀ (n : Nat) (x1 : Int32) (x2 : Int32) (S : pm_S) (r : pm_S), F_Plan_settleText_15 N  x0 n x1 x2 S = some r → pmE pG (pm_rel pG sp (d + 2)) mi_Plan_settleText 15 [some (.ref x0), some (.int x1), some (.int x2)] [] S (none, r) := by
  intro n
  induction n with
  | zero =>
    intro x1 x2 S r h
    cases h
  | succ n ih =>
    intro x1 x2 S r h
    replace h : B_Plan_settleText_15 N  (F_Plan_settleText_15 N  x0 n) x0 x1 x2 S = some r := h
    have hrec15 := ih
    generalize F_Plan_settleText_15 N  x0 n = rec15 at h hrec15
    unfold B_Plan_settleText_15 at h
    refine pE_jump 2 (pc' := 17) (ls' := [some (.ref x0), some (.int x1), some (.int x2)]) (st' := [.ref x0, .int x2]) (fun _ => rfl) ?_
    obtain ⟨oq5, hq5, h⟩ := obind h
    cases oq5 with
    | none => cases h
    | some q5 =>
      try dsimp only at h
      refine pE_gfS rfl rfl hq5 ?_
      obtain ⟨⟨v7, S6⟩, hv7, h⟩ := obind h
      try dsimp only at h
      refine pE_iv (Bs := []) (st := [.int x2]) 1 rfl (Or.inl ⟨rfl, rfl⟩) rfl rfl (Nat.le_of_ble_eq_true rfl) (Nat.le_of_ble_eq_true rfl) (g_Ledger_size hv7) (f_Ledger_size sp (d + 1) N S q5 _ hv7) ?_
      refine pE_br (v7 ≤ x2) rfl rfl (fun c16 => ?_) (fun c16 => ?_)
      · rw [if_pos c16] at h
        refine pE_weak [none, none, none] trivial ?_
        exact f_Plan_settleText_65 sp d N S6 _ h
      · rw [if_neg c16] at h
        refine pE_jump 1 (pc' := 27) (ls' := [some (.ref x0), some (.int x1), some (.int x2)]) (st' := [.ref x0]) (fun _ => rfl) ?_
        obtain ⟨oq8, hq8, h⟩ := obind h
        cases oq8 with
        | none => cases h
        | some q8 =>
          try dsimp only at h
          refine pE_gfS rfl rfl hq8 ?_
          refine pE_jump 2 (pc' := 32) (ls' := [some (.ref x0), some (.int x1), some (.int x2)]) (st' := [.int x1, .int x2, .ref q8]) (fun _ => rfl) ?_
          obtain ⟨S9, hS9, h⟩ := obind h
          refine pE_is (Bs := [.ref q8, .int x2, .int x1]) (st := []) rfl rfl rfl (Nat.le_of_ble_eq_true rfl) (Nat.le_of_ble_eq_true rfl) (f_BP_setAt sp (d + 1) N S6 q8 x2 x1 _ hS9) ?_
          refine pE_jump 2 (pc' := 37) (ls' := [some (.ref x0), some (.int x1), some (.int x2)]) (st' := [.ref x0, .int x1]) (fun _ => rfl) ?_
          obtain ⟨oq10, hq10, h⟩ := obind h
          cases oq10 with
          | none => cases h
          | some q10 =>
            try dsimp only at h
            refine pE_gfS rfl rfl hq10 ?_
            refine pE_jump 2 (pc' := 42) (ls' := [some (.ref x0), some (.int x1), some (.int x2)]) (st' := [.int 0, .int x2, .ref q10, .int x1]) (fun _ => rfl) ?_
            obtain ⟨⟨v12, S11⟩, hv12, h⟩ := obind h
            try dsimp only at h
            refine pE_iv (Bs := [.int x2, .int 0]) (st := [.int x1]) 1 rfl (Or.inl ⟨rfl, rfl⟩) rfl rfl (Nat.le_of_ble_eq_true rfl) (Nat.le_of_ble_eq_true rfl) (g_Ledger_at hv12) (f_Ledger_at sp (d + 1) N S9 q10 x2 0 _ hv12) ?_
            refine pE_br (¬ v12 = 0) rfl rfl (fun c15 => ?_) (fun c15 => ?_)
            · rw [if_neg c15] at h
              refine pE_jump 1 (pc' := 57) (ls' := [some (.ref x0), some (.int x1), some (.int x2)]) (st' := [.int 0, .int x1]) (fun _ => rfl) ?_
              refine pE_weak [some (.ref x0), none, some (.int x2)] ⟨rfl, ⟨rfl, trivial⟩⟩ ?_
              exact f_Plan_settleText_57 sp d N rec15 x0 x2 0 x1 S11 hrec15 _ h
            · have c15 := Decidable.not_not.mp c15
              rw [if_pos c15] at h
              refine pE_jump 2 (pc' := 50) (ls' := [some (.ref x0), some (.int x1), some (.int x2)]) (st' := [.int x2, .ref x0, .int x1]) (fun _ => rfl) ?_
              obtain ⟨⟨v14, S13⟩, hv14, h⟩ := obind h
              try dsimp only at h
              refine pE_iv (Bs := [.int x2]) (st := [.int x1]) 1 rfl (Or.inl ⟨rfl, rfl⟩) rfl rfl (Nat.le_of_ble_eq_true rfl) (Nat.le_of_ble_eq_true rfl) (g_Plan_pairsOf hv14) (f_Plan_pairsOf sp d N S11 x0 x2 _ hv14) ?_
              refine pE_jump 1 (pc' := 57) (ls' := [some (.ref x0), some (.int x1), some (.int x2)]) (st' := [.int v14, .int x1]) (fun _ => rfl) ?_
              refine pE_weak [some (.ref x0), none, some (.int x2)] ⟨rfl, ⟨rfl, trivial⟩⟩ ?_
              exact f_Plan_settleText_57 sp d N rec15 x0 x2 v14 x1 S13 hrec15 _ h
def F_Plan_settleText (N : Nat) (S : pm_S) (a : Nat) : Option pm_S :=
    if rcv S a 4 = true then
    ((oR S a 4 5).bind fun oq1 => match oq1 with
    | none => none
    | some q1 =>
    (oR S a 4 4).bind fun oq3 => match oq3 with
    | none => none
    | some q3 =>
    (F_Layout_copy N S q1 q3).bind fun S4 =>
    F_Plan_settleText_15 N a N 0 0 S4)
    else none
theorem g_Plan_settleText {N : Nat} {S : pm_S} {a : Nat} {r : pm_S} (h : F_Plan_settleText N S a = some r) : rcv S a 4 = true := by
  unfold F_Plan_settleText at h
  by_cases c : rcv S a 4 = true
  · exact c
  · rw [if_neg c] at h; cases h
set_option maxHeartbeats 4000000 in
set_option maxRecDepth 20000 in
theorem f_Plan_settleText (sp : pm_I → List Value → pm_S → pm_O → Prop) (d N : Nat) (S : pm_S) (a : Nat) (r : pm_S) (h : F_Plan_settleText N S a = some r) : pm_rel pG sp (d + 3) mi_Plan_settleText [.ref a] S (none, r) := by
  have hg := g_Plan_settleText h
  unfold F_Plan_settleText at h
  rw [if_pos hg] at h
  refine pE_rel (d := d + 2) ?_
  show pmE pG _ mi_Plan_settleText 0 [some (.ref a), none, none] [] S _
  refine pE_jump 1 (pc' := 1) (ls' := [some (.ref a), none, none]) (st' := [.ref a]) (fun _ => rfl) ?_
  obtain ⟨oq1, hq1, h⟩ := obind h
  cases oq1 with
  | none => cases h
  | some q1 =>
    try dsimp only at h
    refine pE_gfS rfl rfl hq1 ?_
    refine pE_jump 1 (pc' := 5) (ls' := [some (.ref a), none, none]) (st' := [.ref a, .ref q1]) (fun _ => rfl) ?_
    obtain ⟨oq3, hq3, h⟩ := obind h
    cases oq3 with
    | none => cases h
    | some q3 =>
      try dsimp only at h
      refine pE_gfS rfl rfl hq3 ?_
      obtain ⟨S4, hS4, h⟩ := obind h
      refine pE_iv (Bs := [.ref q3]) (st := []) 1 rfl (Or.inl ⟨rfl, rfl⟩) rfl rfl (Nat.le_of_ble_eq_true rfl) (Nat.le_of_ble_eq_true rfl) (g_Layout_copy hS4) (f_Layout_copy sp (d + 1) N S q1 q3 _ hS4) ?_
      refine pE_jump 4 (pc' := 15) (ls' := [some (.ref a), some (.int 0), some (.int 0)]) (st' := []) (fun _ => rfl) ?_
      exact f_Plan_settleText_15 sp d N a N 0 0 S4 _ h
def F_Reader_readInto_72 (N : Nat)  (x0 : Nat) (S : pm_S) : Option (Int32 × pm_S) :=
    (oI S x0 7 2).bind fun v7 =>
    some (v7, S)
set_option maxHeartbeats 4000000 in
set_option maxRecDepth 20000 in
theorem f_Reader_readInto_72 (sp : pm_I → List Value → pm_S → pm_O → Prop) (d N : Nat)  (x0 : Nat) (S : pm_S)  (r : (Int32 × pm_S)) (h : F_Reader_readInto_72 N  x0 S = some r) : pmE pG (pm_rel pG sp (d + 6)) mi_Reader_readInto 72 [some (.ref x0), none, none] [] S (some (.int r.1), r.2) := by
  unfold F_Reader_readInto_72 at h
  refine pE_jump 1 (pc' := 73) (ls' := [some (.ref x0), none, none]) (st' := [.ref x0]) (fun _ => rfl) ?_
  obtain ⟨v7, hv7, h⟩ := obind h
  refine pE_gfI rfl rfl hv7 ?_
  cases h
  exact pE_ret rfl rfl rfl
def F_Reader_readInto_60 (N : Nat)  (x0 : Nat) (x1 : Nat) (S : pm_S) : Option (Int32 × pm_S) :=
    (oI S x0 7 2).bind fun v5 =>
    if v5 = (-1) then
    ((F_Plan_settleText N S x1).bind fun S6 =>
    F_Reader_readInto_72 N x0 S6)
    else
    F_Reader_readInto_72 N x0 S
set_option maxHeartbeats 4000000 in
set_option maxRecDepth 20000 in
theorem f_Reader_readInto_60 (sp : pm_I → List Value → pm_S → pm_O → Prop) (d N : Nat)  (x0 : Nat) (x1 : Nat) (S : pm_S)  (r : (Int32 × pm_S)) (h : F_Reader_readInto_60 N  x0 x1 S = some r) : pmE pG (pm_rel pG sp (d + 6)) mi_Reader_readInto 60 [some (.ref x0), some (.ref x1), none] [] S (some (.int r.1), r.2) := by
  unfold F_Reader_readInto_60 at h
  refine pE_jump 1 (pc' := 61) (ls' := [some (.ref x0), some (.ref x1), none]) (st' := [.ref x0]) (fun _ => rfl) ?_
  obtain ⟨v5, hv5, h⟩ := obind h
  refine pE_gfI rfl rfl hv5 ?_
  refine pE_jump 1 (pc' := 65) (ls' := [some (.ref x0), some (.ref x1), none]) (st' := [.int (-1), .int v5]) (fun _ => rfl) ?_
  refine pE_br (¬ v5 = (-1)) rfl rfl (fun c8 => ?_) (fun c8 => ?_)
  · rw [if_neg c8] at h
    refine pE_weak [some (.ref x0), none, none] ⟨rfl, trivial⟩ ?_
    exact f_Reader_readInto_72 sp d N x0 S _ h
  · have c8 := Decidable.not_not.mp c8
    rw [if_pos c8] at h
    refine pE_jump 1 (pc' := 69) (ls' := [some (.ref x0), some (.ref x1), none]) (st' := [.ref x1]) (fun _ => rfl) ?_
    obtain ⟨S6, hS6, h⟩ := obind h
    refine pE_iv (Bs := []) (st := []) 1 rfl (Or.inl ⟨rfl, rfl⟩) rfl rfl (Nat.le_of_ble_eq_true rfl) (Nat.le_of_ble_eq_true rfl) (g_Plan_settleText hS6) (f_Plan_settleText sp (d + 3) N S x1 _ hS6) ?_
    refine pE_weak [some (.ref x0), none, none] ⟨rfl, trivial⟩ ?_
    exact f_Reader_readInto_72 sp d N x0 S6 _ h
def B_Reader_readInto_27 (N : Nat)  (rec27 : Int32 → pm_S → Option (Int32 × pm_S)) (x0 : Nat) (x1 : Nat) (x2 : Int32) (S : pm_S) : Option (Int32 × pm_S) :=
    if 300 ≤ x2 then
    F_Reader_readInto_60 N x0 x1 S
    else
    ((oI S x0 7 2).bind fun v9 =>
    if v9 = (-1) then
    ((F_Reader_comesMore N S x0).bind fun (v11, S10) =>
    if v11 = 0 then
    F_Reader_readInto_60 N x0 x1 S10
    else
    ((F_Reader_readStatement N S10 x0 x1).bind fun S12 =>
    rec27 (x2 + 1) S12))
    else
    F_Reader_readInto_60 N x0 x1 S)
def F_Reader_readInto_27 (N : Nat)  (x0 : Nat) (x1 : Nat) : Nat → Int32 → pm_S → Option (Int32 × pm_S)
  | 0 => fun _ _ => none
  | n + 1 => fun x2 S => B_Reader_readInto_27 N  (F_Reader_readInto_27 N  x0 x1 n) x0 x1 x2 S
set_option maxHeartbeats 4000000 in
set_option maxRecDepth 20000 in
theorem f_Reader_readInto_27 (sp : pm_I → List Value → pm_S → pm_O → Prop) (d N : Nat)  (x0 : Nat) (x1 : Nat)  : ∀ (n : Nat) (x2 : Int32) (S : pm_S) (r : (Int32 × pm_S)), F_Reader_readInto_27 N  x0 x1 n x2 S = some r → pmE pG (pm_rel pG sp (d + 6)) mi_Reader_readInto 27 [some (.ref x0), some (.ref x1), some (.int x2)] [] S (some (.int r.1), r.2) := by
  intro n
  induction n with
  | zero =>
    intro x2 S r h
    cases h
  | succ n ih =>
    intro x2 S r h
    replace h : B_Reader_readInto_27 N  (F_Reader_readInto_27 N  x0 x1 n) x0 x1 x2 S = some r := h
    have hrec27 := ih
    generalize F_Reader_readInto_27 N  x0 x1 n = rec27 at h hrec27
    unfold B_Reader_readInto_27 at h
    refine pE_jump 2 (pc' := 31) (ls' := [some (.ref x0), some (.ref x1), some (.int x2)]) (st' := [.int 300, .int x2]) (fun _ => rfl) ?_
    refine pE_br (300 ≤ x2) rfl rfl (fun c15 => ?_) (fun c15 => ?_)
    · rw [if_pos c15] at h
      refine pE_weak [some (.ref x0), some (.ref x1), none] ⟨rfl, ⟨rfl, trivial⟩⟩ ?_
      exact f_Reader_readInto_60 sp d N x0 x1 S _ h
    · rw [if_neg c15] at h
      refine pE_jump 1 (pc' := 35) (ls' := [some (.ref x0), some (.ref x1), some (.int x2)]) (st' := [.ref x0]) (fun _ => rfl) ?_
      obtain ⟨v9, hv9, h⟩ := obind h
      refine pE_gfI rfl rfl hv9 ?_
      refine pE_jump 1 (pc' := 39) (ls' := [some (.ref x0), some (.ref x1), some (.int x2)]) (st' := [.int (-1), .int v9]) (fun _ => rfl) ?_
      refine pE_br (¬ v9 = (-1)) rfl rfl (fun c14 => ?_) (fun c14 => ?_)
      · rw [if_neg c14] at h
        refine pE_weak [some (.ref x0), some (.ref x1), none] ⟨rfl, ⟨rfl, trivial⟩⟩ ?_
        exact f_Reader_readInto_60 sp d N x0 x1 S _ h
      · have c14 := Decidable.not_not.mp c14
        rw [if_pos c14] at h
        refine pE_jump 1 (pc' := 43) (ls' := [some (.ref x0), some (.ref x1), some (.int x2)]) (st' := [.ref x0]) (fun _ => rfl) ?_
        obtain ⟨⟨v11, S10⟩, hv11, h⟩ := obind h
        try dsimp only at h
        refine pE_iv (Bs := []) (st := []) 1 rfl (Or.inl ⟨rfl, rfl⟩) rfl rfl (Nat.le_of_ble_eq_true rfl) (Nat.le_of_ble_eq_true rfl) (g_Reader_comesMore hv11) (f_Reader_comesMore sp (d + 2) N S x0 _ hv11) ?_
        refine pE_br (v11 = 0) rfl rfl (fun c13 => ?_) (fun c13 => ?_)
        · rw [if_pos c13] at h
          refine pE_weak [some (.ref x0), some (.ref x1), none] ⟨rfl, ⟨rfl, trivial⟩⟩ ?_
          exact f_Reader_readInto_60 sp d N x0 x1 S10 _ h
        · rw [if_neg c13] at h
          refine pE_jump 2 (pc' := 51) (ls' := [some (.ref x0), some (.ref x1), some (.int x2)]) (st' := [.ref x1, .ref x0]) (fun _ => rfl) ?_
          obtain ⟨S12, hS12, h⟩ := obind h
          refine pE_iv (Bs := [.ref x1]) (st := []) 1 rfl (Or.inl ⟨rfl, rfl⟩) rfl rfl (Nat.le_of_ble_eq_true rfl) (Nat.le_of_ble_eq_true rfl) (g_Reader_readStatement hS12) (f_Reader_readStatement sp d N S10 x0 x1 _ hS12) ?_
          refine pE_jump 2 (pc' := 27) (ls' := [some (.ref x0), some (.ref x1), some (.int (x2 + 1))]) (st' := []) (fun _ => rfl) ?_
          exact hrec27 (x2 + 1) S12 _ h
def F_Reader_readInto (N : Nat) (S : pm_S) (a : Nat) (p0 : Nat) : Option (Int32 × pm_S) :=
    if rcv S a 7 = true then
    ((F_Plan_clearText N S p0).bind fun S1 =>
    (wF S1 a 7 1 .int (.int 0)).bind fun S2 =>
    (wF S2 a 7 2 .int (.int (-1))).bind fun S3 =>
    (F_Reader_readBoxes N S3 a p0).bind fun S4 =>
    F_Reader_readInto_27 N a p0 N 0 S4)
    else none
theorem g_Reader_readInto {N : Nat} {S : pm_S} {a : Nat} {p0 : Nat} {r : (Int32 × pm_S)} (h : F_Reader_readInto N S a p0 = some r) : rcv S a 7 = true := by
  unfold F_Reader_readInto at h
  by_cases c : rcv S a 7 = true
  · exact c
  · rw [if_neg c] at h; cases h
set_option maxHeartbeats 4000000 in
set_option maxRecDepth 20000 in
theorem f_Reader_readInto (sp : pm_I → List Value → pm_S → pm_O → Prop) (d N : Nat) (S : pm_S) (a : Nat) (p0 : Nat) (r : (Int32 × pm_S)) (h : F_Reader_readInto N S a p0 = some r) : pm_rel pG sp (d + 7) mi_Reader_readInto [.ref a, .ref p0] S (some (.int r.1), r.2) := by
  have hg := g_Reader_readInto h
  unfold F_Reader_readInto at h
  rw [if_pos hg] at h
  refine pE_rel (d := d + 6) ?_
  show pmE pG _ mi_Reader_readInto 0 [some (.ref a), some (.ref p0), none] [] S _
  refine pE_jump 3 (pc' := 7) (ls' := [some (.ref a), some (.ref p0), none]) (st' := [.ref p0]) (fun _ => rfl) ?_
  obtain ⟨S1, hS1, h⟩ := obind h
  refine pE_iv (Bs := []) (st := []) 1 rfl (Or.inl ⟨rfl, rfl⟩) rfl rfl (Nat.le_of_ble_eq_true rfl) (Nat.le_of_ble_eq_true rfl) (g_Plan_clearText hS1) (f_Plan_clearText sp (d + 3) N S p0 _ hS1) ?_
  refine pE_jump 2 (pc' := 12) (ls' := [some (.ref a), some (.ref p0), none]) (st' := [.int 0, .ref a]) (fun _ => rfl) ?_
  obtain ⟨S2, hS2, h⟩ := obind h
  refine pE_pf rfl rfl rfl hS2 ?_
  refine pE_jump 2 (pc' := 17) (ls' := [some (.ref a), some (.ref p0), none]) (st' := [.int (-1), .ref a]) (fun _ => rfl) ?_
  obtain ⟨S3, hS3, h⟩ := obind h
  refine pE_pf rfl rfl rfl hS3 ?_
  refine pE_jump 2 (pc' := 22) (ls' := [some (.ref a), some (.ref p0), none]) (st' := [.ref p0, .ref a]) (fun _ => rfl) ?_
  obtain ⟨S4, hS4, h⟩ := obind h
  refine pE_iv (Bs := [.ref p0]) (st := []) 1 rfl (Or.inl ⟨rfl, rfl⟩) rfl rfl (Nat.le_of_ble_eq_true rfl) (Nat.le_of_ble_eq_true rfl) (g_Reader_readBoxes hS4) (f_Reader_readBoxes sp (d + 1) N S3 a p0 _ hS4) ?_
  refine pE_jump 2 (pc' := 27) (ls' := [some (.ref a), some (.ref p0), some (.int 0)]) (st' := []) (fun _ => rfl) ?_
  exact f_Reader_readInto_27 sp d N a p0 N 0 S4 _ h
def F_BP_fault (N : Nat) (S : pm_S) (a : Nat) : Option (Int32 × pm_S) :=
    if rcv S a 10 = true then
    ((oR S a 10 1).bind fun oq1 => match oq1 with
    | none => none
    | some q1 =>
    (oR S a 10 5).bind fun oq3 => match oq3 with
    | none => none
    | some q3 =>
    (F_Reader_readInto N S q1 q3).bind fun (v5, S4) =>
    some (v5, S4))
    else none
theorem g_BP_fault {N : Nat} {S : pm_S} {a : Nat} {r : (Int32 × pm_S)} (h : F_BP_fault N S a = some r) : rcv S a 10 = true := by
  unfold F_BP_fault at h
  by_cases c : rcv S a 10 = true
  · exact c
  · rw [if_neg c] at h; cases h
set_option maxHeartbeats 4000000 in
set_option maxRecDepth 20000 in
theorem f_BP_fault (sp : pm_I → List Value → pm_S → pm_O → Prop) (d N : Nat) (S : pm_S) (a : Nat) (r : (Int32 × pm_S)) (h : F_BP_fault N S a = some r) : pm_rel pG sp (d + 8) mi_BP_fault [.ref a] S (some (.int r.1), r.2) := by
  have hg := g_BP_fault h
  unfold F_BP_fault at h
  rw [if_pos hg] at h
  refine pE_rel (d := d + 7) ?_
  show pmE pG _ mi_BP_fault 0 [some (.ref a)] [] S _
  refine pE_jump 1 (pc' := 1) (ls' := [some (.ref a)]) (st' := [.ref a]) (fun _ => rfl) ?_
  obtain ⟨oq1, hq1, h⟩ := obind h
  cases oq1 with
  | none => cases h
  | some q1 =>
    try dsimp only at h
    refine pE_gfS rfl rfl hq1 ?_
    refine pE_jump 1 (pc' := 5) (ls' := [some (.ref a)]) (st' := [.ref a, .ref q1]) (fun _ => rfl) ?_
    obtain ⟨oq3, hq3, h⟩ := obind h
    cases oq3 with
    | none => cases h
    | some q3 =>
      try dsimp only at h
      refine pE_gfS rfl rfl hq3 ?_
      obtain ⟨⟨v5, S4⟩, hv5, h⟩ := obind h
      try dsimp only at h
      refine pE_iv (Bs := [.ref q3]) (st := []) 1 rfl (Or.inl ⟨rfl, rfl⟩) rfl rfl (Nat.le_of_ble_eq_true rfl) (Nat.le_of_ble_eq_true rfl) (g_Reader_readInto hv5) (f_Reader_readInto sp d N S q1 q3 _ hv5) ?_
      cases h
      exact pE_ret rfl rfl rfl
def F_BP_plan_34 (N : Nat)   (S : pm_S) : Option (Int32 × pm_S) :=
    some ((-1), S)
set_option maxHeartbeats 4000000 in
set_option maxRecDepth 20000 in
theorem f_BP_plan_34 (sp : pm_I → List Value → pm_S → pm_O → Prop) (d N : Nat)   (S : pm_S)  (r : (Int32 × pm_S)) (h : F_BP_plan_34 N   S = some r) : pmE pG (pm_rel pG sp (d + 7)) mi_BP_plan 34 [none] [] S (some (.int r.1), r.2) := by
  unfold F_BP_plan_34 at h
  refine pE_jump 1 (pc' := 35) (ls' := [none]) (st' := [.int (-1)]) (fun _ => rfl) ?_
  cases h
  exact pE_ret rfl rfl rfl
def F_BP_plan (N : Nat) (S : pm_S) (a : Nat) : Option (Int32 × pm_S) :=
    if rcv S a 10 = true then
    ((oI S a 10 6).bind fun v1 =>
    if v1 < 0 then
    F_BP_plan_34 N S
    else
    ((oI S a 10 6).bind fun v2 =>
    (oR S a 10 2).bind fun oq3 => match oq3 with
    | none => none
    | some q3 =>
    (aNS S q3).bind fun v4 =>
    if v4 ≤ v2 then
    F_BP_plan_34 N S
    else
    ((oR S a 10 1).bind fun oq5 => match oq5 with
    | none => none
    | some q5 =>
    (oR S a 10 5).bind fun oq7 => match oq7 with
    | none => none
    | some q7 =>
    (F_Reader_readInto N S q5 q7).bind fun (v9, S8) =>
    if v9 = (-1) then
    ((oR S8 a 10 2).bind fun oq10 => match oq10 with
    | none => none
    | some q10 =>
    (oI S8 a 10 6).bind fun v13 =>
    (oR S8 a 10 5).bind fun oq14 => match oq14 with
    | none => none
    | some q14 =>
    (sQ S8 q10 v13 q14).bind fun S15 =>
    (some (ps_hi S15, pm_al S15 12 (.inr (4, [.int 0, .null, .null, .null, .null, .null, .null, .null, .null, .null, .null, .null])))).bind fun (q17, S16) =>
    (F_Plan_init N S16 q17).bind fun S18 =>
    (wF S18 a 10 5 (.object "BuriedPairs$Plan") (.ref q17)).bind fun S19 =>
    (oR S19 a 10 0).bind fun oq20 => match oq20 with
    | none => none
    | some q20 =>
    (F_Tape_cutTo N S19 q20 0).bind fun (v22, S21) =>
    (oI S21 a 10 6).bind fun v23 =>
    (wF S21 a 10 6 .int (.int (v23 + 1))).bind fun S24 =>
    (oI S24 a 10 6).bind fun v25 =>
    some (v25 - 1, S24))
    else
    F_BP_plan_34 N S8)))
    else none
theorem g_BP_plan {N : Nat} {S : pm_S} {a : Nat} {r : (Int32 × pm_S)} (h : F_BP_plan N S a = some r) : rcv S a 10 = true := by
  unfold F_BP_plan at h
  by_cases c : rcv S a 10 = true
  · exact c
  · rw [if_neg c] at h; cases h
set_option maxHeartbeats 4000000 in
set_option maxRecDepth 20000 in
theorem f_BP_plan (sp : pm_I → List Value → pm_S → pm_O → Prop) (d N : Nat) (S : pm_S) (a : Nat) (r : (Int32 × pm_S)) (h : F_BP_plan N S a = some r) : pm_rel pG sp (d + 8) mi_BP_plan [.ref a] S (some (.int r.1), r.2) := by
  have hg := g_BP_plan h
  unfold F_BP_plan at h
  rw [if_pos hg] at h
  refine pE_rel (d := d + 7) ?_
  show pmE pG _ mi_BP_plan 0 [some (.ref a)] [] S _
  refine pE_jump 1 (pc' := 1) (ls' := [some (.ref a)]) (st' := [.ref a]) (fun _ => rfl) ?_
  obtain ⟨v1, hv1, h⟩ := obind h
  refine pE_gfI rfl rfl hv1 ?_
  refine pE_br (v1 < 0) rfl rfl (fun c28 => ?_) (fun c28 => ?_)
  · rw [if_pos c28] at h
    refine pE_weak [none] trivial ?_
    exact f_BP_plan_34 sp d N S _ h
  · rw [if_neg c28] at h
    refine pE_jump 1 (pc' := 8) (ls' := [some (.ref a)]) (st' := [.ref a]) (fun _ => rfl) ?_
    obtain ⟨v2, hv2, h⟩ := obind h
    refine pE_gfI rfl rfl hv2 ?_
    refine pE_jump 1 (pc' := 12) (ls' := [some (.ref a)]) (st' := [.ref a, .int v2]) (fun _ => rfl) ?_
    obtain ⟨oq3, hq3, h⟩ := obind h
    cases oq3 with
    | none => cases h
    | some q3 =>
      try dsimp only at h
      refine pE_gfS rfl rfl hq3 ?_
      obtain ⟨v4, hv4, h⟩ := obind h
      refine pE_aN rfl hv4 ?_
      refine pE_br (v4 ≤ v2) rfl rfl (fun c27 => ?_) (fun c27 => ?_)
      · rw [if_pos c27] at h
        refine pE_weak [none] trivial ?_
        exact f_BP_plan_34 sp d N S _ h
      · rw [if_neg c27] at h
        refine pE_jump 1 (pc' := 20) (ls' := [some (.ref a)]) (st' := [.ref a]) (fun _ => rfl) ?_
        obtain ⟨oq5, hq5, h⟩ := obind h
        cases oq5 with
        | none => cases h
        | some q5 =>
          try dsimp only at h
          refine pE_gfS rfl rfl hq5 ?_
          refine pE_jump 1 (pc' := 24) (ls' := [some (.ref a)]) (st' := [.ref a, .ref q5]) (fun _ => rfl) ?_
          obtain ⟨oq7, hq7, h⟩ := obind h
          cases oq7 with
          | none => cases h
          | some q7 =>
            try dsimp only at h
            refine pE_gfS rfl rfl hq7 ?_
            obtain ⟨⟨v9, S8⟩, hv9, h⟩ := obind h
            try dsimp only at h
            refine pE_iv (Bs := [.ref q7]) (st := []) 1 rfl (Or.inl ⟨rfl, rfl⟩) rfl rfl (Nat.le_of_ble_eq_true rfl) (Nat.le_of_ble_eq_true rfl) (g_Reader_readInto hv9) (f_Reader_readInto sp d N S q5 q7 _ hv9) ?_
            refine pE_jump 1 (pc' := 31) (ls' := [some (.ref a)]) (st' := [.int (-1), .int v9]) (fun _ => rfl) ?_
            refine pE_br (v9 = (-1)) rfl rfl (fun c26 => ?_) (fun c26 => ?_)
            · rw [if_pos c26] at h
              refine pE_jump 1 (pc' := 37) (ls' := [some (.ref a)]) (st' := [.ref a]) (fun _ => rfl) ?_
              obtain ⟨oq10, hq10, h⟩ := obind h
              cases oq10 with
              | none => cases h
              | some q10 =>
                try dsimp only at h
                refine pE_gfS rfl rfl hq10 ?_
                refine pE_jump 1 (pc' := 41) (ls' := [some (.ref a)]) (st' := [.ref a, .ref q10]) (fun _ => rfl) ?_
                obtain ⟨v13, hv13, h⟩ := obind h
                refine pE_gfI rfl rfl hv13 ?_
                refine pE_jump 1 (pc' := 45) (ls' := [some (.ref a)]) (st' := [.ref a, .int v13, .ref q10]) (fun _ => rfl) ?_
                obtain ⟨oq14, hq14, h⟩ := obind h
                cases oq14 with
                | none => cases h
                | some q14 =>
                  try dsimp only at h
                  refine pE_gfS rfl rfl hq14 ?_
                  obtain ⟨S15, hS15, h⟩ := obind h
                  refine pE_sQ rfl hS15 ?_
                  refine pE_jump 1 (pc' := 50) (ls' := [some (.ref a)]) (st' := [.ref a]) (fun _ => rfl) ?_
                  obtain ⟨⟨q17, S16⟩, hq17, h⟩ := obind h
                  try dsimp only at h
                  refine pE_new rfl rfl ?_
                  obtain ⟨rfl, rfl⟩ : ps_hi S15 = q17 ∧ pm_al S15 12 (.inr (4, [.int 0, .null, .null, .null, .null, .null, .null, .null, .null, .null, .null, .null])) = S16 := by cases hq17; exact ⟨rfl, rfl⟩
                  refine pE_jump 1 (pc' := 54) (ls' := [some (.ref a)]) (st' := [.ref (ps_hi S15), .ref (ps_hi S15), .ref a]) (fun _ => rfl) ?_
                  obtain ⟨S18, hS18, h⟩ := obind h
                  refine pE_iv (Bs := []) (st := [.ref (ps_hi S15), .ref a]) 2 rfl (Or.inr ⟨rfl, rfl⟩) rfl rfl (Nat.le_of_ble_eq_true rfl) (Nat.le_of_ble_eq_true rfl) (g_Plan_init hS18) (f_Plan_init sp (d + 4) N (pm_al S15 12 (.inr (4, [.int 0, .null, .null, .null, .null, .null, .null, .null, .null, .null, .null, .null]))) (ps_hi S15) _ hS18) ?_
                  obtain ⟨S19, hS19, h⟩ := obind h
                  refine pE_pf rfl rfl rfl hS19 ?_
                  refine pE_jump 1 (pc' := 61) (ls' := [some (.ref a)]) (st' := [.ref a]) (fun _ => rfl) ?_
                  obtain ⟨oq20, hq20, h⟩ := obind h
                  cases oq20 with
                  | none => cases h
                  | some q20 =>
                    try dsimp only at h
                    refine pE_gfS rfl rfl hq20 ?_
                    refine pE_jump 1 (pc' := 65) (ls' := [some (.ref a)]) (st' := [.int 0, .ref q20]) (fun _ => rfl) ?_
                    obtain ⟨⟨v22, S21⟩, hv22, h⟩ := obind h
                    try dsimp only at h
                    refine pE_iv (Bs := [.int 0]) (st := []) 1 rfl (Or.inl ⟨rfl, rfl⟩) rfl rfl (Nat.le_of_ble_eq_true rfl) (Nat.le_of_ble_eq_true rfl) (g_Tape_cutTo hv22) (f_Tape_cutTo sp (d + 6) N S19 q20 0 _ hv22) ?_
                    refine pE_jump 3 (pc' := 71) (ls' := [some (.ref a)]) (st' := [.ref a, .ref a]) (fun _ => rfl) ?_
                    obtain ⟨v23, hv23, h⟩ := obind h
                    refine pE_gfI rfl rfl hv23 ?_
                    refine pE_jump 2 (pc' := 76) (ls' := [some (.ref a)]) (st' := [.int (v23 + 1), .ref a]) (fun _ => rfl) ?_
                    obtain ⟨S24, hS24, h⟩ := obind h
                    refine pE_pf rfl rfl rfl hS24 ?_
                    refine pE_jump 1 (pc' := 80) (ls' := [some (.ref a)]) (st' := [.ref a]) (fun _ => rfl) ?_
                    obtain ⟨v25, hv25, h⟩ := obind h
                    refine pE_gfI rfl rfl hv25 ?_
                    refine pE_jump 2 (pc' := 85) (ls' := [some (.ref a)]) (st' := [.int (v25 - 1)]) (fun _ => rfl) ?_
                    cases h
                    exact pE_ret rfl rfl rfl
            · rw [if_neg c26] at h
              refine pE_weak [none] trivial ?_
              exact f_BP_plan_34 sp d N S8 _ h
def F_BP_planAt_21 (N : Nat)   (S : pm_S) : Option (Option Nat × pm_S) :=
    some (none, S)
set_option maxHeartbeats 4000000 in
set_option maxRecDepth 20000 in
theorem f_BP_planAt_21 (sp : pm_I → List Value → pm_S → pm_O → Prop) (d N : Nat)   (S : pm_S)  (r : (Option Nat × pm_S)) (h : F_BP_planAt_21 N   S = some r) : pmE pG (pm_rel pG sp (d + 0)) mi_BP_planAt 21 [none, none] [] S (some (va_rf r.1), r.2) := by
  unfold F_BP_planAt_21 at h
  refine pE_jump 1 (pc' := 22) (ls' := [none, none]) (st' := [.null]) (fun _ => rfl) ?_
  cases h
  exact pE_ret rfl rfl rfl
def F_BP_planAt (N : Nat) (S : pm_S) (a : Nat) (p0 : Int32) : Option (Option Nat × pm_S) :=
    if rcv S a 10 = true then
    (if p0 < 0 then
    F_BP_planAt_21 N S
    else
    ((oI S a 10 6).bind fun v1 =>
    if v1 ≤ p0 then
    F_BP_planAt_21 N S
    else
    ((oR S a 10 2).bind fun oq2 => match oq2 with
    | none => none
    | some q2 =>
    (aNS S q2).bind fun v3 =>
    if p0 < v3 then
    ((oR S a 10 2).bind fun oq4 => match oq4 with
    | none => none
    | some q4 =>
    (aQ S q4 p0).bind fun oq5 => match oq5 with
    | none => some (none, S)
    | some q5 =>
    some (some q5, S))
    else
    F_BP_planAt_21 N S)))
    else none
theorem g_BP_planAt {N : Nat} {S : pm_S} {a : Nat} {p0 : Int32} {r : (Option Nat × pm_S)} (h : F_BP_planAt N S a p0 = some r) : rcv S a 10 = true := by
  unfold F_BP_planAt at h
  by_cases c : rcv S a 10 = true
  · exact c
  · rw [if_neg c] at h; cases h
set_option maxHeartbeats 4000000 in
set_option maxRecDepth 20000 in
theorem f_BP_planAt (sp : pm_I → List Value → pm_S → pm_O → Prop) (d N : Nat) (S : pm_S) (a : Nat) (p0 : Int32) (r : (Option Nat × pm_S)) (h : F_BP_planAt N S a p0 = some r) : pm_rel pG sp (d + 1) mi_BP_planAt [.ref a, .int p0] S (some (va_rf r.1), r.2) := by
  have hg := g_BP_planAt h
  unfold F_BP_planAt at h
  rw [if_pos hg] at h
  refine pE_rel (d := d + 0) ?_
  show pmE pG _ mi_BP_planAt 0 [some (.ref a), some (.int p0)] [] S _
  refine pE_jump 1 (pc' := 1) (ls' := [some (.ref a), some (.int p0)]) (st' := [.int p0]) (fun _ => rfl) ?_
  refine pE_br (p0 < 0) rfl rfl (fun c8 => ?_) (fun c8 => ?_)
  · rw [if_pos c8] at h
    refine pE_weak [none, none] trivial ?_
    exact f_BP_planAt_21 sp d N S _ h
  · rw [if_neg c8] at h
    refine pE_jump 2 (pc' := 6) (ls' := [some (.ref a), some (.int p0)]) (st' := [.ref a, .int p0]) (fun _ => rfl) ?_
    obtain ⟨v1, hv1, h⟩ := obind h
    refine pE_gfI rfl rfl hv1 ?_
    refine pE_br (v1 ≤ p0) rfl rfl (fun c7 => ?_) (fun c7 => ?_)
    · rw [if_pos c7] at h
      refine pE_weak [none, none] trivial ?_
      exact f_BP_planAt_21 sp d N S _ h
    · rw [if_neg c7] at h
      refine pE_jump 2 (pc' := 14) (ls' := [some (.ref a), some (.int p0)]) (st' := [.ref a, .int p0]) (fun _ => rfl) ?_
      obtain ⟨oq2, hq2, h⟩ := obind h
      cases oq2 with
      | none => cases h
      | some q2 =>
        try dsimp only at h
        refine pE_gfS rfl rfl hq2 ?_
        obtain ⟨v3, hv3, h⟩ := obind h
        refine pE_aN rfl hv3 ?_
        refine pE_br (p0 < v3) rfl rfl (fun c6 => ?_) (fun c6 => ?_)
        · rw [if_pos c6] at h
          refine pE_jump 1 (pc' := 24) (ls' := [some (.ref a), some (.int p0)]) (st' := [.ref a]) (fun _ => rfl) ?_
          obtain ⟨oq4, hq4, h⟩ := obind h
          cases oq4 with
          | none => cases h
          | some q4 =>
            try dsimp only at h
            refine pE_gfS rfl rfl hq4 ?_
            refine pE_jump 1 (pc' := 28) (ls' := [some (.ref a), some (.int p0)]) (st' := [.int p0, .ref q4]) (fun _ => rfl) ?_
            obtain ⟨oq5, hq5, h⟩ := obind h
            cases oq5 with
            | none =>
              try dsimp only at h
              refine pE_aQN rfl hq5 ?_
              cases h
              exact pE_ret rfl rfl rfl
            | some q5 =>
              try dsimp only at h
              refine pE_aQS rfl hq5 ?_
              cases h
              exact pE_ret rfl rfl rfl
        · rw [if_neg c6] at h
          refine pE_weak [none, none] trivial ?_
          exact f_BP_planAt_21 sp d N S _ h
def F_Plan_hasPair_29 (N : Nat)  (t0 : Int32) (S : pm_S) : Option (Int32 × pm_S) :=
    if t0 = 0 ∨ t0 = 1 then some (t0, S) else none
set_option maxHeartbeats 4000000 in
set_option maxRecDepth 20000 in
theorem f_Plan_hasPair_29 (sp : pm_I → List Value → pm_S → pm_O → Prop) (d N : Nat)  (t0 : Int32) (S : pm_S)  (r : (Int32 × pm_S)) (h : F_Plan_hasPair_29 N  t0 S = some r) : pmE pG (pm_rel pG sp (d + 2)) mi_Plan_hasPair 29 [none, none, none] [.int t0] S (some (.int r.1), r.2) := by
  unfold F_Plan_hasPair_29 at h
  by_cases c4 : t0 = 0 ∨ t0 = 1
  · rw [if_pos c4] at h
    cases h
    exact pE_ret rfl (if_pos c4) rfl
  · rw [if_neg c4] at h
    cases h
def F_Plan_hasPair_28 (N : Nat)   (S : pm_S) : Option (Int32 × pm_S) :=
    F_Plan_hasPair_29 N 0 S
set_option maxHeartbeats 4000000 in
set_option maxRecDepth 20000 in
theorem f_Plan_hasPair_28 (sp : pm_I → List Value → pm_S → pm_O → Prop) (d N : Nat)   (S : pm_S)  (r : (Int32 × pm_S)) (h : F_Plan_hasPair_28 N   S = some r) : pmE pG (pm_rel pG sp (d + 2)) mi_Plan_hasPair 28 [none, none, none] [] S (some (.int r.1), r.2) := by
  unfold F_Plan_hasPair_28 at h
  refine pE_jump 1 (pc' := 29) (ls' := [none, none, none]) (st' := [.int 0]) (fun _ => rfl) ?_
  exact f_Plan_hasPair_29 sp d N 0 S _ h
def F_Plan_hasPair (N : Nat) (S : pm_S) (a : Nat) (p0 : Int32) (p1 : Int32) : Option (Int32 × pm_S) :=
    if rcv S a 4 = true then
    ((oR S a 4 1).bind fun oq1 => match oq1 with
    | none => none
    | some q1 =>
    (F_Ledger_has N S q1 p0).bind fun (v3, S2) =>
    if v3 = 0 then
    F_Plan_hasPair_28 N S2
    else
    (if p1 < 0 then
    F_Plan_hasPair_28 N S2
    else
    ((F_Plan_pairsOf N S2 a p0).bind fun (v6, S5) =>
    if v6 ≤ p1 then
    F_Plan_hasPair_28 N S5
    else
    F_Plan_hasPair_29 N 1 S5)))
    else none
theorem g_Plan_hasPair {N : Nat} {S : pm_S} {a : Nat} {p0 : Int32} {p1 : Int32} {r : (Int32 × pm_S)} (h : F_Plan_hasPair N S a p0 p1 = some r) : rcv S a 4 = true := by
  unfold F_Plan_hasPair at h
  by_cases c : rcv S a 4 = true
  · exact c
  · rw [if_neg c] at h; cases h
set_option maxHeartbeats 4000000 in
set_option maxRecDepth 20000 in
theorem f_Plan_hasPair (sp : pm_I → List Value → pm_S → pm_O → Prop) (d N : Nat) (S : pm_S) (a : Nat) (p0 : Int32) (p1 : Int32) (r : (Int32 × pm_S)) (h : F_Plan_hasPair N S a p0 p1 = some r) : pm_rel pG sp (d + 3) mi_Plan_hasPair [.ref a, .int p0, .int p1] S (some (.int r.1), r.2) := by
  have hg := g_Plan_hasPair h
  unfold F_Plan_hasPair at h
  rw [if_pos hg] at h
  refine pE_rel (d := d + 2) ?_
  show pmE pG _ mi_Plan_hasPair 0 [some (.ref a), some (.int p0), some (.int p1)] [] S _
  refine pE_jump 1 (pc' := 1) (ls' := [some (.ref a), some (.int p0), some (.int p1)]) (st' := [.ref a]) (fun _ => rfl) ?_
  obtain ⟨oq1, hq1, h⟩ := obind h
  cases oq1 with
  | none => cases h
  | some q1 =>
    try dsimp only at h
    refine pE_gfS rfl rfl hq1 ?_
    refine pE_jump 1 (pc' := 5) (ls' := [some (.ref a), some (.int p0), some (.int p1)]) (st' := [.int p0, .ref q1]) (fun _ => rfl) ?_
    obtain ⟨⟨v3, S2⟩, hv3, h⟩ := obind h
    try dsimp only at h
    refine pE_iv (Bs := [.int p0]) (st := []) 1 rfl (Or.inl ⟨rfl, rfl⟩) rfl rfl (Nat.le_of_ble_eq_true rfl) (Nat.le_of_ble_eq_true rfl) (g_Ledger_has hv3) (f_Ledger_has sp (d + 1) N S q1 p0 _ hv3) ?_
    refine pE_br (v3 = 0) rfl rfl (fun c9 => ?_) (fun c9 => ?_)
    · rw [if_pos c9] at h
      refine pE_weak [none, none, none] trivial ?_
      exact f_Plan_hasPair_28 sp d N S2 _ h
    · rw [if_neg c9] at h
      refine pE_jump 1 (pc' := 12) (ls' := [some (.ref a), some (.int p0), some (.int p1)]) (st' := [.int p1]) (fun _ => rfl) ?_
      refine pE_br (p1 < 0) rfl rfl (fun c8 => ?_) (fun c8 => ?_)
      · rw [if_pos c8] at h
        refine pE_weak [none, none, none] trivial ?_
        exact f_Plan_hasPair_28 sp d N S2 _ h
      · rw [if_neg c8] at h
        refine pE_jump 3 (pc' := 18) (ls' := [some (.ref a), some (.int p0), some (.int p1)]) (st' := [.int p0, .ref a, .int p1]) (fun _ => rfl) ?_
        obtain ⟨⟨v6, S5⟩, hv6, h⟩ := obind h
        try dsimp only at h
        refine pE_iv (Bs := [.int p0]) (st := [.int p1]) 1 rfl (Or.inl ⟨rfl, rfl⟩) rfl rfl (Nat.le_of_ble_eq_true rfl) (Nat.le_of_ble_eq_true rfl) (g_Plan_pairsOf hv6) (f_Plan_pairsOf sp d N S2 a p0 _ hv6) ?_
        refine pE_br (v6 ≤ p1) rfl rfl (fun c7 => ?_) (fun c7 => ?_)
        · rw [if_pos c7] at h
          refine pE_weak [none, none, none] trivial ?_
          exact f_Plan_hasPair_28 sp d N S5 _ h
        · rw [if_neg c7] at h
          refine pE_jump 2 (pc' := 29) (ls' := [some (.ref a), some (.int p0), some (.int p1)]) (st' := [.int 1]) (fun _ => rfl) ?_
          refine pE_weak [none, none, none] trivial ?_
          exact f_Plan_hasPair_29 sp d N 1 S5 _ h
def F_BP_joint_22 (N : Nat)   (S : pm_S) : Option (Int32 × pm_S) :=
    some ((-1), S)
set_option maxHeartbeats 4000000 in
set_option maxRecDepth 20000 in
theorem f_BP_joint_22 (sp : pm_I → List Value → pm_S → pm_O → Prop) (d N : Nat)   (S : pm_S)  (r : (Int32 × pm_S)) (h : F_BP_joint_22 N   S = some r) : pmE pG (pm_rel pG sp (d + 3)) mi_BP_joint 22 [none, none, none, none, none] [] S (some (.int r.1), r.2) := by
  unfold F_BP_joint_22 at h
  refine pE_jump 1 (pc' := 23) (ls' := [none, none, none, none, none]) (st' := [.int (-1)]) (fun _ => rfl) ?_
  cases h
  exact pE_ret rfl rfl rfl
def F_BP_joint (N : Nat) (S : pm_S) (a : Nat) (p0 : Int32) (p1 : Int32) (p2 : Int32) : Option (Int32 × pm_S) :=
    if rcv S a 10 = true then
    ((F_BP_planAt N S a p0).bind fun (oq2, S1) => match oq2 with
    | none => F_BP_joint_22 N S1
    | some q2 =>
    (F_Plan_hasPair N S1 q2 p1 p2).bind fun (v4, S3) =>
    if v4 = 0 then
    F_BP_joint_22 N S3
    else
    ((oR S3 q2 4 5).bind fun oq5 => match oq5 with
    | none => none
    | some q5 =>
    (oR S3 q5 1 0).bind fun oq6 => match oq6 with
    | none => none
    | some q6 =>
    (F_BP_siteOf N S3 p1 p2).bind fun (v10, S9) =>
    (F_BP_valueAt N S9 q6 v10).bind fun (v12, S11) =>
    some (v12, S11)))
    else none
theorem g_BP_joint {N : Nat} {S : pm_S} {a : Nat} {p0 : Int32} {p1 : Int32} {p2 : Int32} {r : (Int32 × pm_S)} (h : F_BP_joint N S a p0 p1 p2 = some r) : rcv S a 10 = true := by
  unfold F_BP_joint at h
  by_cases c : rcv S a 10 = true
  · exact c
  · rw [if_neg c] at h; cases h
set_option maxHeartbeats 4000000 in
set_option maxRecDepth 20000 in
theorem f_BP_joint (sp : pm_I → List Value → pm_S → pm_O → Prop) (d N : Nat) (S : pm_S) (a : Nat) (p0 : Int32) (p1 : Int32) (p2 : Int32) (r : (Int32 × pm_S)) (h : F_BP_joint N S a p0 p1 p2 = some r) : pm_rel pG sp (d + 4) mi_BP_joint [.ref a, .int p0, .int p1, .int p2] S (some (.int r.1), r.2) := by
  have hg := g_BP_joint h
  unfold F_BP_joint at h
  rw [if_pos hg] at h
  refine pE_rel (d := d + 3) ?_
  show pmE pG _ mi_BP_joint 0 [some (.ref a), some (.int p0), some (.int p1), some (.int p2), none] [] S _
  refine pE_jump 2 (pc' := 2) (ls' := [some (.ref a), some (.int p0), some (.int p1), some (.int p2), none]) (st' := [.int p0, .ref a]) (fun _ => rfl) ?_
  obtain ⟨⟨oq2, S1⟩, hq2, h⟩ := obind h
  try dsimp only at h
  cases oq2 with
  | none =>
    try dsimp only at h
    refine pE_iv (Bs := [.int p0]) (st := []) 1 rfl (Or.inl ⟨rfl, rfl⟩) rfl rfl (Nat.le_of_ble_eq_true rfl) (Nat.le_of_ble_eq_true rfl) (g_BP_planAt hq2) (f_BP_planAt sp (d + 2) N S a p0 _ hq2) ?_
    refine pE_jump 3 (pc' := 22) (ls' := [some (.ref a), some (.int p0), some (.int p1), some (.int p2), some (.null)]) (st' := []) (fun _ => rfl) ?_
    refine pE_weak [none, none, none, none, none] trivial ?_
    exact f_BP_joint_22 sp d N S1 _ h
  | some q2 =>
    try dsimp only at h
    refine pE_iv (Bs := [.int p0]) (st := []) 1 rfl (Or.inl ⟨rfl, rfl⟩) rfl rfl (Nat.le_of_ble_eq_true rfl) (Nat.le_of_ble_eq_true rfl) (g_BP_planAt hq2) (f_BP_planAt sp (d + 2) N S a p0 _ hq2) ?_
    refine pE_jump 6 (pc' := 16) (ls' := [some (.ref a), some (.int p0), some (.int p1), some (.int p2), some (.ref q2)]) (st' := [.int p2, .int p1, .ref q2]) (fun _ => rfl) ?_
    obtain ⟨⟨v4, S3⟩, hv4, h⟩ := obind h
    try dsimp only at h
    refine pE_iv (Bs := [.int p1, .int p2]) (st := []) 1 rfl (Or.inl ⟨rfl, rfl⟩) rfl rfl (Nat.le_of_ble_eq_true rfl) (Nat.le_of_ble_eq_true rfl) (g_Plan_hasPair hv4) (f_Plan_hasPair sp d N S1 q2 p1 p2 _ hv4) ?_
    refine pE_br (¬ v4 = 0) rfl rfl (fun c13 => ?_) (fun c13 => ?_)
    · rw [if_neg c13] at h
      refine pE_jump 1 (pc' := 26) (ls' := [some (.ref a), some (.int p0), some (.int p1), some (.int p2), some (.ref q2)]) (st' := [.ref q2]) (fun _ => rfl) ?_
      obtain ⟨oq5, hq5, h⟩ := obind h
      cases oq5 with
      | none => cases h
      | some q5 =>
        try dsimp only at h
        refine pE_gfS rfl rfl hq5 ?_
        obtain ⟨oq6, hq6, h⟩ := obind h
        cases oq6 with
        | none => cases h
        | some q6 =>
          try dsimp only at h
          refine pE_gfS rfl rfl hq6 ?_
          refine pE_jump 2 (pc' := 34) (ls' := [some (.ref a), some (.int p0), some (.int p1), some (.int p2), some (.ref q2)]) (st' := [.int p2, .int p1, .ref q6]) (fun _ => rfl) ?_
          obtain ⟨⟨v10, S9⟩, hv10, h⟩ := obind h
          try dsimp only at h
          refine pE_is (Bs := [.int p1, .int p2]) (st := [.ref q6]) rfl rfl rfl (Nat.le_of_ble_eq_true rfl) (Nat.le_of_ble_eq_true rfl) (f_BP_siteOf sp (d + 2) N S3 p1 p2 _ hv10) ?_
          obtain ⟨⟨v12, S11⟩, hv12, h⟩ := obind h
          try dsimp only at h
          refine pE_is (Bs := [.ref q6, .int v10]) (st := []) rfl rfl rfl (Nat.le_of_ble_eq_true rfl) (Nat.le_of_ble_eq_true rfl) (f_BP_valueAt sp (d + 2) N S9 q6 v10 _ hv12) ?_
          cases h
          exact pE_ret rfl rfl rfl
    · have c13 := Decidable.not_not.mp c13
      rw [if_pos c13] at h
      refine pE_weak [none, none, none, none, none] trivial ?_
      exact f_BP_joint_22 sp d N S3 _ h
def F_BP_house (N : Nat) (S : pm_S) (a : Nat) (p0 : Int32) (p1 : Int32) : Option (Int32 × pm_S) :=
    if rcv S a 10 = true then
    ((F_BP_planAt N S a p0).bind fun (oq2, S1) => match oq2 with
    | none => some ((-1), S1)
    | some q2 =>
    (oR S1 q2 4 5).bind fun oq3 => match oq3 with
    | none => none
    | some q3 =>
    (oR S1 q3 1 3).bind fun oq4 => match oq4 with
    | none => none
    | some q4 =>
    (F_BP_valueAt N S1 q4 p1).bind fun (v6, S5) =>
    some (v6, S5))
    else none
theorem g_BP_house {N : Nat} {S : pm_S} {a : Nat} {p0 : Int32} {p1 : Int32} {r : (Int32 × pm_S)} (h : F_BP_house N S a p0 p1 = some r) : rcv S a 10 = true := by
  unfold F_BP_house at h
  by_cases c : rcv S a 10 = true
  · exact c
  · rw [if_neg c] at h; cases h
set_option maxHeartbeats 4000000 in
set_option maxRecDepth 20000 in
theorem f_BP_house (sp : pm_I → List Value → pm_S → pm_O → Prop) (d N : Nat) (S : pm_S) (a : Nat) (p0 : Int32) (p1 : Int32) (r : (Int32 × pm_S)) (h : F_BP_house N S a p0 p1 = some r) : pm_rel pG sp (d + 2) mi_BP_house [.ref a, .int p0, .int p1] S (some (.int r.1), r.2) := by
  have hg := g_BP_house h
  unfold F_BP_house at h
  rw [if_pos hg] at h
  refine pE_rel (d := d + 1) ?_
  show pmE pG _ mi_BP_house 0 [some (.ref a), some (.int p0), some (.int p1), none] [] S _
  refine pE_jump 2 (pc' := 2) (ls' := [some (.ref a), some (.int p0), some (.int p1), none]) (st' := [.int p0, .ref a]) (fun _ => rfl) ?_
  obtain ⟨⟨oq2, S1⟩, hq2, h⟩ := obind h
  try dsimp only at h
  cases oq2 with
  | none =>
    try dsimp only at h
    refine pE_iv (Bs := [.int p0]) (st := []) 1 rfl (Or.inl ⟨rfl, rfl⟩) rfl rfl (Nat.le_of_ble_eq_true rfl) (Nat.le_of_ble_eq_true rfl) (g_BP_planAt hq2) (f_BP_planAt sp d N S a p0 _ hq2) ?_
    refine pE_jump 4 (pc' := 11) (ls' := [some (.ref a), some (.int p0), some (.int p1), some (.null)]) (st' := [.int (-1)]) (fun _ => rfl) ?_
    cases h
    exact pE_ret rfl rfl rfl
  | some q2 =>
    try dsimp only at h
    refine pE_iv (Bs := [.int p0]) (st := []) 1 rfl (Or.inl ⟨rfl, rfl⟩) rfl rfl (Nat.le_of_ble_eq_true rfl) (Nat.le_of_ble_eq_true rfl) (g_BP_planAt hq2) (f_BP_planAt sp d N S a p0 _ hq2) ?_
    refine pE_jump 4 (pc' := 13) (ls' := [some (.ref a), some (.int p0), some (.int p1), some (.ref q2)]) (st' := [.ref q2]) (fun _ => rfl) ?_
    obtain ⟨oq3, hq3, h⟩ := obind h
    cases oq3 with
    | none => cases h
    | some q3 =>
      try dsimp only at h
      refine pE_gfS rfl rfl hq3 ?_
      obtain ⟨oq4, hq4, h⟩ := obind h
      cases oq4 with
      | none => cases h
      | some q4 =>
        try dsimp only at h
        refine pE_gfS rfl rfl hq4 ?_
        refine pE_jump 1 (pc' := 20) (ls' := [some (.ref a), some (.int p0), some (.int p1), some (.ref q2)]) (st' := [.int p1, .ref q4]) (fun _ => rfl) ?_
        obtain ⟨⟨v6, S5⟩, hv6, h⟩ := obind h
        try dsimp only at h
        refine pE_is (Bs := [.ref q4, .int p1]) (st := []) rfl rfl rfl (Nat.le_of_ble_eq_true rfl) (Nat.le_of_ble_eq_true rfl) (f_BP_valueAt sp d N S1 q4 p1 _ hv6) ?_
        cases h
        exact pE_ret rfl rfl rfl
def F_BP_isHouse_15 (N : Nat)  (t0 : Int32) (S : pm_S) : Option (Int32 × pm_S) :=
    if t0 = 0 ∨ t0 = 1 then some (t0, S) else none
set_option maxHeartbeats 4000000 in
set_option maxRecDepth 20000 in
theorem f_BP_isHouse_15 (sp : pm_I → List Value → pm_S → pm_O → Prop) (d N : Nat)  (t0 : Int32) (S : pm_S)  (r : (Int32 × pm_S)) (h : F_BP_isHouse_15 N  t0 S = some r) : pmE pG (pm_rel pG sp (d + 0)) mi_BP_isHouse 15 [none] [.int t0] S (some (.int r.1), r.2) := by
  unfold F_BP_isHouse_15 at h
  by_cases c1 : t0 = 0 ∨ t0 = 1
  · rw [if_pos c1] at h
    cases h
    exact pE_ret rfl (if_pos c1) rfl
  · rw [if_neg c1] at h
    cases h
def F_BP_isHouse_14 (N : Nat)   (S : pm_S) : Option (Int32 × pm_S) :=
    F_BP_isHouse_15 N 0 S
set_option maxHeartbeats 4000000 in
set_option maxRecDepth 20000 in
theorem f_BP_isHouse_14 (sp : pm_I → List Value → pm_S → pm_O → Prop) (d N : Nat)   (S : pm_S)  (r : (Int32 × pm_S)) (h : F_BP_isHouse_14 N   S = some r) : pmE pG (pm_rel pG sp (d + 0)) mi_BP_isHouse 14 [none] [] S (some (.int r.1), r.2) := by
  unfold F_BP_isHouse_14 at h
  refine pE_jump 1 (pc' := 15) (ls' := [none]) (st' := [.int 0]) (fun _ => rfl) ?_
  exact f_BP_isHouse_15 sp d N 0 S _ h
def F_BP_isHouse (N : Nat) (S : pm_S) (p0 : Int32) : Option (Int32 × pm_S) :=
    if p0 < 0 then
    F_BP_isHouse_14 N S
    else
    (if 10 ≤ p0 then
    F_BP_isHouse_14 N S
    else
    F_BP_isHouse_15 N 1 S)
set_option maxHeartbeats 4000000 in
set_option maxRecDepth 20000 in
theorem f_BP_isHouse (sp : pm_I → List Value → pm_S → pm_O → Prop) (d N : Nat) (S : pm_S) (p0 : Int32) (r : (Int32 × pm_S)) (h : F_BP_isHouse N S p0 = some r) : pm_rel pG sp (d + 1) mi_BP_isHouse [.int p0] S (some (.int r.1), r.2) := by
  unfold F_BP_isHouse at h
  refine pE_rel (d := d + 0) ?_
  show pmE pG _ mi_BP_isHouse 0 [some (.int p0)] [] S _
  refine pE_jump 1 (pc' := 1) (ls' := [some (.int p0)]) (st' := [.int p0]) (fun _ => rfl) ?_
  refine pE_br (p0 < 0) rfl rfl (fun c3 => ?_) (fun c3 => ?_)
  · rw [if_pos c3] at h
    refine pE_weak [none] trivial ?_
    exact f_BP_isHouse_14 sp d N S _ h
  · rw [if_neg c3] at h
    refine pE_jump 2 (pc' := 7) (ls' := [some (.int p0)]) (st' := [.int 10, .int p0]) (fun _ => rfl) ?_
    refine pE_br (10 ≤ p0) rfl rfl (fun c2 => ?_) (fun c2 => ?_)
    · rw [if_pos c2] at h
      refine pE_weak [none] trivial ?_
      exact f_BP_isHouse_14 sp d N S _ h
    · rw [if_neg c2] at h
      refine pE_jump 2 (pc' := 15) (ls' := [some (.int p0)]) (st' := [.int 1]) (fun _ => rfl) ?_
      refine pE_weak [none] trivial ?_
      exact f_BP_isHouse_15 sp d N 1 S _ h
def F_Layout_work_19 (N : Nat)   (S : pm_S) : Option pm_S :=
    some S
set_option maxHeartbeats 4000000 in
set_option maxRecDepth 20000 in
theorem f_Layout_work_19 (sp : pm_I → List Value → pm_S → pm_O → Prop) (d N : Nat)   (S : pm_S)  (r : pm_S) (h : F_Layout_work_19 N   S = some r) : pmE pG (pm_rel pG sp (d + 2)) mi_Layout_work 19 [none, none, none, none] [] S (none, r) := by
  unfold F_Layout_work_19 at h
  cases h
  exact pE_ret rfl rfl rfl
def F_Layout_work (N : Nat) (S : pm_S) (a : Nat) (p0 : Int32) (p1 : Int32) (p2 : Int32) : Option pm_S :=
    if rcv S a 1 = true then
    (if p0 = 0 then
    ((F_Layout_join N S a p1 p2).bind fun S1 =>
    F_Layout_work_19 N S1)
    else
    ((F_Layout_hang N S a p1 p2).bind fun S2 =>
    F_Layout_work_19 N S2))
    else none
theorem g_Layout_work {N : Nat} {S : pm_S} {a : Nat} {p0 : Int32} {p1 : Int32} {p2 : Int32} {r : pm_S} (h : F_Layout_work N S a p0 p1 p2 = some r) : rcv S a 1 = true := by
  unfold F_Layout_work at h
  by_cases c : rcv S a 1 = true
  · exact c
  · rw [if_neg c] at h; cases h
set_option maxHeartbeats 4000000 in
set_option maxRecDepth 20000 in
theorem f_Layout_work (sp : pm_I → List Value → pm_S → pm_O → Prop) (d N : Nat) (S : pm_S) (a : Nat) (p0 : Int32) (p1 : Int32) (p2 : Int32) (r : pm_S) (h : F_Layout_work N S a p0 p1 p2 = some r) : pm_rel pG sp (d + 3) mi_Layout_work [.ref a, .int p0, .int p1, .int p2] S (none, r) := by
  have hg := g_Layout_work h
  unfold F_Layout_work at h
  rw [if_pos hg] at h
  refine pE_rel (d := d + 2) ?_
  show pmE pG _ mi_Layout_work 0 [some (.ref a), some (.int p0), some (.int p1), some (.int p2)] [] S _
  refine pE_jump 1 (pc' := 1) (ls' := [some (.ref a), some (.int p0), some (.int p1), some (.int p2)]) (st' := [.int p0]) (fun _ => rfl) ?_
  refine pE_br (¬ p0 = 0) rfl rfl (fun c3 => ?_) (fun c3 => ?_)
  · rw [if_neg c3] at h
    refine pE_jump 3 (pc' := 16) (ls' := [some (.ref a), some (.int p0), some (.int p1), some (.int p2)]) (st' := [.int p2, .int p1, .ref a]) (fun _ => rfl) ?_
    obtain ⟨S2, hS2, h⟩ := obind h
    refine pE_iv (Bs := [.int p1, .int p2]) (st := []) 1 rfl (Or.inl ⟨rfl, rfl⟩) rfl rfl (Nat.le_of_ble_eq_true rfl) (Nat.le_of_ble_eq_true rfl) (g_Layout_hang hS2) (f_Layout_hang sp d N S a p1 p2 _ hS2) ?_
    refine pE_weak [none, none, none, none] trivial ?_
    exact f_Layout_work_19 sp d N S2 _ h
  · have c3 := Decidable.not_not.mp c3
    rw [if_pos c3] at h
    refine pE_jump 3 (pc' := 7) (ls' := [some (.ref a), some (.int p0), some (.int p1), some (.int p2)]) (st' := [.int p2, .int p1, .ref a]) (fun _ => rfl) ?_
    obtain ⟨S1, hS1, h⟩ := obind h
    refine pE_iv (Bs := [.int p1, .int p2]) (st := []) 1 rfl (Or.inl ⟨rfl, rfl⟩) rfl rfl (Nat.le_of_ble_eq_true rfl) (Nat.le_of_ble_eq_true rfl) (g_Layout_join hS1) (f_Layout_join sp d N S a p1 p2 _ hS1) ?_
    refine pE_jump 1 (pc' := 19) (ls' := [some (.ref a), some (.int p0), some (.int p1), some (.int p2)]) (st' := []) (fun _ => rfl) ?_
    refine pE_weak [none, none, none, none] trivial ?_
    exact f_Layout_work_19 sp d N S1 _ h
def F_Sheet_forgetAll (N : Nat) (S : pm_S) (a : Nat) : Option pm_S :=
    if rcv S a 5 = true then
    ((wF S a 5 2 .int (.int 0)).bind fun S1 =>
    (wF S1 a 5 4 .boolean (.int 0)).bind fun S2 =>
    some S2)
    else none
theorem g_Sheet_forgetAll {N : Nat} {S : pm_S} {a : Nat} {r : pm_S} (h : F_Sheet_forgetAll N S a = some r) : rcv S a 5 = true := by
  unfold F_Sheet_forgetAll at h
  by_cases c : rcv S a 5 = true
  · exact c
  · rw [if_neg c] at h; cases h
set_option maxHeartbeats 4000000 in
set_option maxRecDepth 20000 in
theorem f_Sheet_forgetAll (sp : pm_I → List Value → pm_S → pm_O → Prop) (d N : Nat) (S : pm_S) (a : Nat) (r : pm_S) (h : F_Sheet_forgetAll N S a = some r) : pm_rel pG sp (d + 1) mi_Sheet_forgetAll [.ref a] S (none, r) := by
  have hg := g_Sheet_forgetAll h
  unfold F_Sheet_forgetAll at h
  rw [if_pos hg] at h
  refine pE_rel (d := d + 0) ?_
  show pmE pG _ mi_Sheet_forgetAll 0 [some (.ref a)] [] S _
  refine pE_jump 2 (pc' := 2) (ls' := [some (.ref a)]) (st' := [.int 0, .ref a]) (fun _ => rfl) ?_
  obtain ⟨S1, hS1, h⟩ := obind h
  refine pE_pf rfl rfl rfl hS1 ?_
  refine pE_jump 2 (pc' := 7) (ls' := [some (.ref a)]) (st' := [.int 0, .ref a]) (fun _ => rfl) ?_
  obtain ⟨S2, hS2, h⟩ := obind h
  refine pE_pf rfl rfl rfl hS2 ?_
  cases h
  exact pE_ret rfl rfl rfl
def F_Plan_addSlip_37 (N : Nat)  (x4 : Int32) (S : pm_S) : Option (Int32 × pm_S) :=
    some (x4, S)
set_option maxHeartbeats 4000000 in
set_option maxRecDepth 20000 in
theorem f_Plan_addSlip_37 (sp : pm_I → List Value → pm_S → pm_O → Prop) (d N : Nat)  (x4 : Int32) (S : pm_S)  (r : (Int32 × pm_S)) (h : F_Plan_addSlip_37 N  x4 S = some r) : pmE pG (pm_rel pG sp (d + 3)) mi_Plan_addSlip 37 [none, none, none, none, some (.int x4)] [] S (some (.int r.1), r.2) := by
  unfold F_Plan_addSlip_37 at h
  refine pE_jump 1 (pc' := 39) (ls' := [none, none, none, none, some (.int x4)]) (st' := [.int x4]) (fun _ => rfl) ?_
  cases h
  exact pE_ret rfl rfl rfl
def F_Plan_addSlip (N : Nat) (S : pm_S) (a : Nat) (p0 : Int32) (p1 : Int32) (p2 : Int32) : Option (Int32 × pm_S) :=
    if rcv S a 4 = true then
    ((oR S a 4 6).bind fun oq1 => match oq1 with
    | none => none
    | some q1 =>
    (F_Ledger_add N S q1 p0 p1 p2 0 0).bind fun (v3, S2) =>
    if v3 = (-1) then
    F_Plan_addSlip_37 N v3 S2
    else
    ((oR S2 a 4 5).bind fun oq4 => match oq4 with
    | none => none
    | some q4 =>
    (F_Layout_work N S2 q4 p0 p1 p2).bind fun S5 =>
    (oR S5 a 4 11).bind fun oq6 => match oq6 with
    | none => none
    | some q6 =>
    (F_Sheet_forgetAll N S5 q6).bind fun S7 =>
    F_Plan_addSlip_37 N v3 S7))
    else none
theorem g_Plan_addSlip {N : Nat} {S : pm_S} {a : Nat} {p0 : Int32} {p1 : Int32} {p2 : Int32} {r : (Int32 × pm_S)} (h : F_Plan_addSlip N S a p0 p1 p2 = some r) : rcv S a 4 = true := by
  unfold F_Plan_addSlip at h
  by_cases c : rcv S a 4 = true
  · exact c
  · rw [if_neg c] at h; cases h
set_option maxHeartbeats 4000000 in
set_option maxRecDepth 20000 in
theorem f_Plan_addSlip (sp : pm_I → List Value → pm_S → pm_O → Prop) (d N : Nat) (S : pm_S) (a : Nat) (p0 : Int32) (p1 : Int32) (p2 : Int32) (r : (Int32 × pm_S)) (h : F_Plan_addSlip N S a p0 p1 p2 = some r) : pm_rel pG sp (d + 4) mi_Plan_addSlip [.ref a, .int p0, .int p1, .int p2] S (some (.int r.1), r.2) := by
  have hg := g_Plan_addSlip h
  unfold F_Plan_addSlip at h
  rw [if_pos hg] at h
  refine pE_rel (d := d + 3) ?_
  show pmE pG _ mi_Plan_addSlip 0 [some (.ref a), some (.int p0), some (.int p1), some (.int p2), none] [] S _
  refine pE_jump 1 (pc' := 1) (ls' := [some (.ref a), some (.int p0), some (.int p1), some (.int p2), none]) (st' := [.ref a]) (fun _ => rfl) ?_
  obtain ⟨oq1, hq1, h⟩ := obind h
  cases oq1 with
  | none => cases h
  | some q1 =>
    try dsimp only at h
    refine pE_gfS rfl rfl hq1 ?_
    refine pE_jump 5 (pc' := 9) (ls' := [some (.ref a), some (.int p0), some (.int p1), some (.int p2), none]) (st' := [.int 0, .int 0, .int p2, .int p1, .int p0, .ref q1]) (fun _ => rfl) ?_
    obtain ⟨⟨v3, S2⟩, hv3, h⟩ := obind h
    try dsimp only at h
    refine pE_iv (Bs := [.int p0, .int p1, .int p2, .int 0, .int 0]) (st := []) 1 rfl (Or.inl ⟨rfl, rfl⟩) rfl rfl (Nat.le_of_ble_eq_true rfl) (Nat.le_of_ble_eq_true rfl) (g_Ledger_add hv3) (f_Ledger_add sp (d + 1) N S q1 p0 p1 p2 0 0 _ hv3) ?_
    refine pE_jump 3 (pc' := 17) (ls' := [some (.ref a), some (.int p0), some (.int p1), some (.int p2), some (.int v3)]) (st' := [.int (-1), .int v3]) (fun _ => rfl) ?_
    refine pE_br (v3 = (-1)) rfl rfl (fun c8 => ?_) (fun c8 => ?_)
    · rw [if_pos c8] at h
      refine pE_weak [none, none, none, none, some (.int v3)] ⟨rfl, trivial⟩ ?_
      exact f_Plan_addSlip_37 sp d N v3 S2 _ h
    · rw [if_neg c8] at h
      refine pE_jump 1 (pc' := 21) (ls' := [some (.ref a), some (.int p0), some (.int p1), some (.int p2), some (.int v3)]) (st' := [.ref a]) (fun _ => rfl) ?_
      obtain ⟨oq4, hq4, h⟩ := obind h
      cases oq4 with
      | none => cases h
      | some q4 =>
        try dsimp only at h
        refine pE_gfS rfl rfl hq4 ?_
        refine pE_jump 3 (pc' := 27) (ls' := [some (.ref a), some (.int p0), some (.int p1), some (.int p2), some (.int v3)]) (st' := [.int p2, .int p1, .int p0, .ref q4]) (fun _ => rfl) ?_
        obtain ⟨S5, hS5, h⟩ := obind h
        refine pE_iv (Bs := [.int p0, .int p1, .int p2]) (st := []) 1 rfl (Or.inl ⟨rfl, rfl⟩) rfl rfl (Nat.le_of_ble_eq_true rfl) (Nat.le_of_ble_eq_true rfl) (g_Layout_work hS5) (f_Layout_work sp d N S2 q4 p0 p1 p2 _ hS5) ?_
        refine pE_jump 1 (pc' := 31) (ls' := [some (.ref a), some (.int p0), some (.int p1), some (.int p2), some (.int v3)]) (st' := [.ref a]) (fun _ => rfl) ?_
        obtain ⟨oq6, hq6, h⟩ := obind h
        cases oq6 with
        | none => cases h
        | some q6 =>
          try dsimp only at h
          refine pE_gfS rfl rfl hq6 ?_
          obtain ⟨S7, hS7, h⟩ := obind h
          refine pE_iv (Bs := []) (st := []) 1 rfl (Or.inl ⟨rfl, rfl⟩) rfl rfl (Nat.le_of_ble_eq_true rfl) (Nat.le_of_ble_eq_true rfl) (g_Sheet_forgetAll hS7) (f_Sheet_forgetAll sp (d + 2) N S5 q6 _ hS7) ?_
          refine pE_weak [none, none, none, none, some (.int v3)] ⟨rfl, trivial⟩ ?_
          exact f_Plan_addSlip_37 sp d N v3 S7 _ h
def F_BP_slip_23 (N : Nat)   (S : pm_S) : Option (Int32 × pm_S) :=
    some ((-1), S)
set_option maxHeartbeats 4000000 in
set_option maxRecDepth 20000 in
theorem f_BP_slip_23 (sp : pm_I → List Value → pm_S → pm_O → Prop) (d N : Nat)   (S : pm_S)  (r : (Int32 × pm_S)) (h : F_BP_slip_23 N   S = some r) : pmE pG (pm_rel pG sp (d + 4)) mi_BP_slip 23 [none, none, none, none, none, none, none, none, none, none] [] S (some (.int r.1), r.2) := by
  unfold F_BP_slip_23 at h
  refine pE_jump 1 (pc' := 24) (ls' := [none, none, none, none, none, none, none, none, none, none]) (st' := [.int (-1)]) (fun _ => rfl) ?_
  cases h
  exact pE_ret rfl rfl rfl
def F_BP_slip_117 (N : Nat)  (t0 : Int32) (t1 : Int32) (t2 : Int32) (t3 : Nat) (S : pm_S) : Option (Int32 × pm_S) :=
    (F_Plan_addSlip N S t3 t2 t1 t0).bind fun (v12, S11) =>
    some (v12, S11)
set_option maxHeartbeats 4000000 in
set_option maxRecDepth 20000 in
theorem f_BP_slip_117 (sp : pm_I → List Value → pm_S → pm_O → Prop) (d N : Nat)  (t0 : Int32) (t1 : Int32) (t2 : Int32) (t3 : Nat) (S : pm_S)  (r : (Int32 × pm_S)) (h : F_BP_slip_117 N  t0 t1 t2 t3 S = some r) : pmE pG (pm_rel pG sp (d + 4)) mi_BP_slip 117 [none, none, none, none, none, none, none, none, none, none] [.int t0, .int t1, .int t2, .ref t3] S (some (.int r.1), r.2) := by
  unfold F_BP_slip_117 at h
  obtain ⟨⟨v12, S11⟩, hv12, h⟩ := obind h
  try dsimp only at h
  refine pE_iv (Bs := [.int t2, .int t1, .int t0]) (st := []) 1 rfl (Or.inl ⟨rfl, rfl⟩) rfl rfl (Nat.le_of_ble_eq_true rfl) (Nat.le_of_ble_eq_true rfl) (g_Plan_addSlip hv12) (f_Plan_addSlip sp d N S t3 t2 t1 t0 _ hv12) ?_
  cases h
  exact pE_ret rfl rfl rfl
def F_BP_slip_91 (N : Nat)  (x2 : Int32) (x3 : Int32) (x4 : Int32) (x5 : Int32) (x6 : Int32) (x7 : Nat) (x8 : Int32) (S : pm_S) : Option (Int32 × pm_S) :=
    (F_BP_siteOf N S x3 x4).bind fun (v10, S9) =>
    if x8 = 0 then
    F_BP_slip_117 N x5 v10 x2 x7 S9
    else
    ((F_BP_siteOf N S9 x5 x6).bind fun (v14, S13) =>
    F_BP_slip_117 N v14 v10 x2 x7 S13)
set_option maxHeartbeats 4000000 in
set_option maxRecDepth 20000 in
theorem f_BP_slip_91 (sp : pm_I → List Value → pm_S → pm_O → Prop) (d N : Nat)  (x2 : Int32) (x3 : Int32) (x4 : Int32) (x5 : Int32) (x6 : Int32) (x7 : Nat) (x8 : Int32) (S : pm_S)  (r : (Int32 × pm_S)) (h : F_BP_slip_91 N  x2 x3 x4 x5 x6 x7 x8 S = some r) : pmE pG (pm_rel pG sp (d + 4)) mi_BP_slip 91 [none, none, some (.int x2), some (.int x3), some (.int x4), some (.int x5), some (.int x6), some (.ref x7), some (.int x8), none] [] S (some (.int r.1), r.2) := by
  unfold F_BP_slip_91 at h
  refine pE_jump 4 (pc' := 97) (ls' := [none, none, some (.int x2), some (.int x3), some (.int x4), some (.int x5), some (.int x6), some (.ref x7), some (.int x8), none]) (st' := [.int x4, .int x3, .int x2, .ref x7]) (fun _ => rfl) ?_
  obtain ⟨⟨v10, S9⟩, hv10, h⟩ := obind h
  try dsimp only at h
  refine pE_is (Bs := [.int x3, .int x4]) (st := [.int x2, .ref x7]) rfl rfl rfl (Nat.le_of_ble_eq_true rfl) (Nat.le_of_ble_eq_true rfl) (f_BP_siteOf sp (d + 3) N S x3 x4 _ hv10) ?_
  refine pE_jump 1 (pc' := 102) (ls' := [none, none, some (.int x2), some (.int x3), some (.int x4), some (.int x5), some (.int x6), some (.ref x7), some (.int x8), none]) (st' := [.int x8, .int v10, .int x2, .ref x7]) (fun _ => rfl) ?_
  refine pE_br (x8 = 0) rfl rfl (fun c15 => ?_) (fun c15 => ?_)
  · rw [if_pos c15] at h
    refine pE_jump 1 (pc' := 117) (ls' := [none, none, some (.int x2), some (.int x3), some (.int x4), some (.int x5), some (.int x6), some (.ref x7), some (.int x8), none]) (st' := [.int x5, .int v10, .int x2, .ref x7]) (fun _ => rfl) ?_
    refine pE_weak [none, none, none, none, none, none, none, none, none, none] trivial ?_
    exact f_BP_slip_117 sp d N x5 v10 x2 x7 S9 _ h
  · rw [if_neg c15] at h
    refine pE_jump 2 (pc' := 109) (ls' := [none, none, some (.int x2), some (.int x3), some (.int x4), some (.int x5), some (.int x6), some (.ref x7), some (.int x8), none]) (st' := [.int x6, .int x5, .int v10, .int x2, .ref x7]) (fun _ => rfl) ?_
    obtain ⟨⟨v14, S13⟩, hv14, h⟩ := obind h
    try dsimp only at h
    refine pE_is (Bs := [.int x5, .int x6]) (st := [.int v10, .int x2, .ref x7]) rfl rfl rfl (Nat.le_of_ble_eq_true rfl) (Nat.le_of_ble_eq_true rfl) (f_BP_siteOf sp (d + 3) N S9 x5 x6 _ hv14) ?_
    refine pE_jump 1 (pc' := 117) (ls' := [none, none, some (.int x2), some (.int x3), some (.int x4), some (.int x5), some (.int x6), some (.ref x7), some (.int x8), none]) (st' := [.int v14, .int v10, .int x2, .ref x7]) (fun _ => rfl) ?_
    refine pE_weak [none, none, none, none, none, none, none, none, none, none] trivial ?_
    exact f_BP_slip_117 sp d N v14 v10 x2 x7 S13 _ h
def F_BP_slip_77 (N : Nat)  (x2 : Int32) (x3 : Int32) (x4 : Int32) (x5 : Int32) (x6 : Int32) (x7 : Nat) (x8 : Int32) (t0 : Int32) (S : pm_S) : Option (Int32 × pm_S) :=
    if x8 = 0 then
    (if t0 = 0 then
    some ((-1), S)
    else
    F_BP_slip_91 N x2 x3 x4 x5 x6 x7 x8 S)
    else
    F_BP_slip_91 N x2 x3 x4 x5 x6 x7 x8 S
set_option maxHeartbeats 4000000 in
set_option maxRecDepth 20000 in
theorem f_BP_slip_77 (sp : pm_I → List Value → pm_S → pm_O → Prop) (d N : Nat)  (x2 : Int32) (x3 : Int32) (x4 : Int32) (x5 : Int32) (x6 : Int32) (x7 : Nat) (x8 : Int32) (t0 : Int32) (S : pm_S)  (r : (Int32 × pm_S)) (h : F_BP_slip_77 N  x2 x3 x4 x5 x6 x7 x8 t0 S = some r) : pmE pG (pm_rel pG sp (d + 4)) mi_BP_slip 77 [none, none, some (.int x2), some (.int x3), some (.int x4), some (.int x5), some (.int x6), some (.ref x7), some (.int x8), none] [.int t0] S (some (.int r.1), r.2) := by
  unfold F_BP_slip_77 at h
  refine pE_jump 2 (pc' := 81) (ls' := [none, none, some (.int x2), some (.int x3), some (.int x4), some (.int x5), some (.int x6), some (.ref x7), some (.int x8), some (.int t0)]) (st' := [.int x8]) (fun _ => rfl) ?_
  refine pE_br (¬ x8 = 0) rfl rfl (fun c17 => ?_) (fun c17 => ?_)
  · rw [if_neg c17] at h
    refine pE_weak [none, none, some (.int x2), some (.int x3), some (.int x4), some (.int x5), some (.int x6), some (.ref x7), some (.int x8), none] ⟨rfl, ⟨rfl, ⟨rfl, ⟨rfl, ⟨rfl, ⟨rfl, ⟨rfl, trivial⟩⟩⟩⟩⟩⟩⟩ ?_
    exact f_BP_slip_91 sp d N x2 x3 x4 x5 x6 x7 x8 S _ h
  · have c17 := Decidable.not_not.mp c17
    rw [if_pos c17] at h
    refine pE_jump 1 (pc' := 86) (ls' := [none, none, some (.int x2), some (.int x3), some (.int x4), some (.int x5), some (.int x6), some (.ref x7), some (.int x8), some (.int t0)]) (st' := [.int t0]) (fun _ => rfl) ?_
    refine pE_br (¬ t0 = 0) rfl rfl (fun c16 => ?_) (fun c16 => ?_)
    · rw [if_neg c16] at h
      refine pE_weak [none, none, some (.int x2), some (.int x3), some (.int x4), some (.int x5), some (.int x6), some (.ref x7), some (.int x8), none] ⟨rfl, ⟨rfl, ⟨rfl, ⟨rfl, ⟨rfl, ⟨rfl, ⟨rfl, trivial⟩⟩⟩⟩⟩⟩⟩ ?_
      exact f_BP_slip_91 sp d N x2 x3 x4 x5 x6 x7 x8 S _ h
    · have c16 := Decidable.not_not.mp c16
      rw [if_pos c16] at h
      refine pE_jump 1 (pc' := 90) (ls' := [none, none, some (.int x2), some (.int x3), some (.int x4), some (.int x5), some (.int x6), some (.ref x7), some (.int x8), some (.int t0)]) (st' := [.int (-1)]) (fun _ => rfl) ?_
      cases h
      exact pE_ret rfl rfl rfl
def F_BP_slip_76 (N : Nat)  (x2 : Int32) (x3 : Int32) (x4 : Int32) (x5 : Int32) (x6 : Int32) (x7 : Nat) (x8 : Int32) (S : pm_S) : Option (Int32 × pm_S) :=
    F_BP_slip_77 N x2 x3 x4 x5 x6 x7 x8 0 S
set_option maxHeartbeats 4000000 in
set_option maxRecDepth 20000 in
theorem f_BP_slip_76 (sp : pm_I → List Value → pm_S → pm_O → Prop) (d N : Nat)  (x2 : Int32) (x3 : Int32) (x4 : Int32) (x5 : Int32) (x6 : Int32) (x7 : Nat) (x8 : Int32) (S : pm_S)  (r : (Int32 × pm_S)) (h : F_BP_slip_76 N  x2 x3 x4 x5 x6 x7 x8 S = some r) : pmE pG (pm_rel pG sp (d + 4)) mi_BP_slip 76 [none, none, some (.int x2), some (.int x3), some (.int x4), some (.int x5), some (.int x6), some (.ref x7), some (.int x8), none] [] S (some (.int r.1), r.2) := by
  unfold F_BP_slip_76 at h
  refine pE_jump 1 (pc' := 77) (ls' := [none, none, some (.int x2), some (.int x3), some (.int x4), some (.int x5), some (.int x6), some (.ref x7), some (.int x8), none]) (st' := [.int 0]) (fun _ => rfl) ?_
  exact f_BP_slip_77 sp d N x2 x3 x4 x5 x6 x7 x8 0 S _ h
def F_BP_slip_57 (N : Nat)  (x2 : Int32) (x3 : Int32) (x4 : Int32) (x5 : Int32) (x6 : Int32) (x7 : Nat) (t0 : Int32) (S : pm_S) : Option (Int32 × pm_S) :=
    if x2 = 1 then
    ((F_BP_isHouse N S x5).bind fun (v8, S7) =>
    if v8 = 0 then
    F_BP_slip_76 N x2 x3 x4 x5 x6 x7 t0 S7
    else
    F_BP_slip_77 N x2 x3 x4 x5 x6 x7 t0 1 S7)
    else
    F_BP_slip_76 N x2 x3 x4 x5 x6 x7 t0 S
set_option maxHeartbeats 4000000 in
set_option maxRecDepth 20000 in
theorem f_BP_slip_57 (sp : pm_I → List Value → pm_S → pm_O → Prop) (d N : Nat)  (x2 : Int32) (x3 : Int32) (x4 : Int32) (x5 : Int32) (x6 : Int32) (x7 : Nat) (t0 : Int32) (S : pm_S)  (r : (Int32 × pm_S)) (h : F_BP_slip_57 N  x2 x3 x4 x5 x6 x7 t0 S = some r) : pmE pG (pm_rel pG sp (d + 4)) mi_BP_slip 57 [none, none, some (.int x2), some (.int x3), some (.int x4), some (.int x5), some (.int x6), some (.ref x7), none, none] [.int t0] S (some (.int r.1), r.2) := by
  unfold F_BP_slip_57 at h
  refine pE_jump 3 (pc' := 61) (ls' := [none, none, some (.int x2), some (.int x3), some (.int x4), some (.int x5), some (.int x6), some (.ref x7), some (.int t0), none]) (st' := [.int 1, .int x2]) (fun _ => rfl) ?_
  refine pE_br (¬ x2 = 1) rfl rfl (fun c19 => ?_) (fun c19 => ?_)
  · rw [if_neg c19] at h
    exact f_BP_slip_76 sp d N x2 x3 x4 x5 x6 x7 t0 S _ h
  · have c19 := Decidable.not_not.mp c19
    rw [if_pos c19] at h
    refine pE_jump 1 (pc' := 66) (ls' := [none, none, some (.int x2), some (.int x3), some (.int x4), some (.int x5), some (.int x6), some (.ref x7), some (.int t0), none]) (st' := [.int x5]) (fun _ => rfl) ?_
    obtain ⟨⟨v8, S7⟩, hv8, h⟩ := obind h
    try dsimp only at h
    refine pE_is (Bs := [.int x5]) (st := []) rfl rfl rfl (Nat.le_of_ble_eq_true rfl) (Nat.le_of_ble_eq_true rfl) (f_BP_isHouse sp (d + 3) N S x5 _ hv8) ?_
    refine pE_br (v8 = 0) rfl rfl (fun c18 => ?_) (fun c18 => ?_)
    · rw [if_pos c18] at h
      exact f_BP_slip_76 sp d N x2 x3 x4 x5 x6 x7 t0 S7 _ h
    · rw [if_neg c18] at h
      refine pE_jump 2 (pc' := 77) (ls' := [none, none, some (.int x2), some (.int x3), some (.int x4), some (.int x5), some (.int x6), some (.ref x7), some (.int t0), none]) (st' := [.int 1]) (fun _ => rfl) ?_
      exact f_BP_slip_77 sp d N x2 x3 x4 x5 x6 x7 t0 1 S7 _ h
def F_BP_slip_56 (N : Nat)  (x2 : Int32) (x3 : Int32) (x4 : Int32) (x5 : Int32) (x6 : Int32) (x7 : Nat) (S : pm_S) : Option (Int32 × pm_S) :=
    F_BP_slip_57 N x2 x3 x4 x5 x6 x7 0 S
set_option maxHeartbeats 4000000 in
set_option maxRecDepth 20000 in
theorem f_BP_slip_56 (sp : pm_I → List Value → pm_S → pm_O → Prop) (d N : Nat)  (x2 : Int32) (x3 : Int32) (x4 : Int32) (x5 : Int32) (x6 : Int32) (x7 : Nat) (S : pm_S)  (r : (Int32 × pm_S)) (h : F_BP_slip_56 N  x2 x3 x4 x5 x6 x7 S = some r) : pmE pG (pm_rel pG sp (d + 4)) mi_BP_slip 56 [none, none, some (.int x2), some (.int x3), some (.int x4), some (.int x5), some (.int x6), some (.ref x7), none, none] [] S (some (.int r.1), r.2) := by
  unfold F_BP_slip_56 at h
  refine pE_jump 1 (pc' := 57) (ls' := [none, none, some (.int x2), some (.int x3), some (.int x4), some (.int x5), some (.int x6), some (.ref x7), none, none]) (st' := [.int 0]) (fun _ => rfl) ?_
  exact f_BP_slip_57 sp d N x2 x3 x4 x5 x6 x7 0 S _ h
def F_BP_slip (N : Nat) (S : pm_S) (a : Nat) (p0 : Int32) (p1 : Int32) (p2 : Int32) (p3 : Int32) (p4 : Int32) (p5 : Int32) : Option (Int32 × pm_S) :=
    if rcv S a 10 = true then
    ((F_BP_planAt N S a p0).bind fun (oq2, S1) => match oq2 with
    | none => F_BP_slip_23 N S1
    | some q2 =>
    (F_Plan_hasPair N S1 q2 p2 p3).bind fun (v4, S3) =>
    if v4 = 0 then
    F_BP_slip_23 N S3
    else
    (if p1 = 0 then
    ((F_Plan_meet N S3 q2 p2 p4).bind fun (v6, S5) =>
    if v6 = 0 then
    F_BP_slip_56 N p1 p2 p3 p4 p5 q2 S5
    else
    ((F_Plan_hasPair N S5 q2 p4 p5).bind fun (v21, S20) =>
    if v21 = 0 then
    F_BP_slip_56 N p1 p2 p3 p4 p5 q2 S20
    else
    F_BP_slip_57 N p1 p2 p3 p4 p5 q2 1 S20))
    else
    F_BP_slip_56 N p1 p2 p3 p4 p5 q2 S3))
    else none
theorem g_BP_slip {N : Nat} {S : pm_S} {a : Nat} {p0 : Int32} {p1 : Int32} {p2 : Int32} {p3 : Int32} {p4 : Int32} {p5 : Int32} {r : (Int32 × pm_S)} (h : F_BP_slip N S a p0 p1 p2 p3 p4 p5 = some r) : rcv S a 10 = true := by
  unfold F_BP_slip at h
  by_cases c : rcv S a 10 = true
  · exact c
  · rw [if_neg c] at h; cases h
set_option maxHeartbeats 4000000 in
set_option maxRecDepth 20000 in
theorem f_BP_slip (sp : pm_I → List Value → pm_S → pm_O → Prop) (d N : Nat) (S : pm_S) (a : Nat) (p0 : Int32) (p1 : Int32) (p2 : Int32) (p3 : Int32) (p4 : Int32) (p5 : Int32) (r : (Int32 × pm_S)) (h : F_BP_slip N S a p0 p1 p2 p3 p4 p5 = some r) : pm_rel pG sp (d + 5) mi_BP_slip [.ref a, .int p0, .int p1, .int p2, .int p3, .int p4, .int p5] S (some (.int r.1), r.2) := by
  have hg := g_BP_slip h
  unfold F_BP_slip at h
  rw [if_pos hg] at h
  refine pE_rel (d := d + 4) ?_
  show pmE pG _ mi_BP_slip 0 [some (.ref a), some (.int p0), some (.int p1), some (.int p2), some (.int p3), some (.int p4), some (.int p5), none, none, none] [] S _
  refine pE_jump 2 (pc' := 2) (ls' := [some (.ref a), some (.int p0), some (.int p1), some (.int p2), some (.int p3), some (.int p4), some (.int p5), none, none, none]) (st' := [.int p0, .ref a]) (fun _ => rfl) ?_
  obtain ⟨⟨oq2, S1⟩, hq2, h⟩ := obind h
  try dsimp only at h
  cases oq2 with
  | none =>
    try dsimp only at h
    refine pE_iv (Bs := [.int p0]) (st := []) 1 rfl (Or.inl ⟨rfl, rfl⟩) rfl rfl (Nat.le_of_ble_eq_true rfl) (Nat.le_of_ble_eq_true rfl) (g_BP_planAt hq2) (f_BP_planAt sp (d + 3) N S a p0 _ hq2) ?_
    refine pE_jump 3 (pc' := 23) (ls' := [some (.ref a), some (.int p0), some (.int p1), some (.int p2), some (.int p3), some (.int p4), some (.int p5), some (.null), none, none]) (st' := []) (fun _ => rfl) ?_
    refine pE_weak [none, none, none, none, none, none, none, none, none, none] trivial ?_
    exact f_BP_slip_23 sp d N S1 _ h
  | some q2 =>
    try dsimp only at h
    refine pE_iv (Bs := [.int p0]) (st := []) 1 rfl (Or.inl ⟨rfl, rfl⟩) rfl rfl (Nat.le_of_ble_eq_true rfl) (Nat.le_of_ble_eq_true rfl) (g_BP_planAt hq2) (f_BP_planAt sp (d + 3) N S a p0 _ hq2) ?_
    refine pE_jump 6 (pc' := 17) (ls' := [some (.ref a), some (.int p0), some (.int p1), some (.int p2), some (.int p3), some (.int p4), some (.int p5), some (.ref q2), none, none]) (st' := [.int p3, .int p2, .ref q2]) (fun _ => rfl) ?_
    obtain ⟨⟨v4, S3⟩, hv4, h⟩ := obind h
    try dsimp only at h
    refine pE_iv (Bs := [.int p2, .int p3]) (st := []) 1 rfl (Or.inl ⟨rfl, rfl⟩) rfl rfl (Nat.le_of_ble_eq_true rfl) (Nat.le_of_ble_eq_true rfl) (g_Plan_hasPair hv4) (f_Plan_hasPair sp (d + 1) N S1 q2 p2 p3 _ hv4) ?_
    refine pE_br (¬ v4 = 0) rfl rfl (fun c25 => ?_) (fun c25 => ?_)
    · rw [if_neg c25] at h
      refine pE_jump 1 (pc' := 26) (ls' := [some (.ref a), some (.int p0), some (.int p1), some (.int p2), some (.int p3), some (.int p4), some (.int p5), some (.ref q2), none, none]) (st' := [.int p1]) (fun _ => rfl) ?_
      refine pE_br (¬ p1 = 0) rfl rfl (fun c24 => ?_) (fun c24 => ?_)
      · rw [if_neg c24] at h
        refine pE_weak [none, none, some (.int p1), some (.int p2), some (.int p3), some (.int p4), some (.int p5), some (.ref q2), none, none] ⟨rfl, ⟨rfl, ⟨rfl, ⟨rfl, ⟨rfl, ⟨rfl, trivial⟩⟩⟩⟩⟩⟩ ?_
        exact f_BP_slip_56 sp d N p1 p2 p3 p4 p5 q2 S3 _ h
      · have c24 := Decidable.not_not.mp c24
        rw [if_pos c24] at h
        refine pE_jump 3 (pc' := 34) (ls' := [some (.ref a), some (.int p0), some (.int p1), some (.int p2), some (.int p3), some (.int p4), some (.int p5), some (.ref q2), none, none]) (st' := [.int p4, .int p2, .ref q2]) (fun _ => rfl) ?_
        obtain ⟨⟨v6, S5⟩, hv6, h⟩ := obind h
        try dsimp only at h
        refine pE_iv (Bs := [.int p2, .int p4]) (st := []) 1 rfl (Or.inl ⟨rfl, rfl⟩) rfl rfl (Nat.le_of_ble_eq_true rfl) (Nat.le_of_ble_eq_true rfl) (g_Plan_meet hv6) (f_Plan_meet sp (d + 1) N S3 q2 p2 p4 _ hv6) ?_
        refine pE_br (v6 = 0) rfl rfl (fun c23 => ?_) (fun c23 => ?_)
        · rw [if_pos c23] at h
          refine pE_weak [none, none, some (.int p1), some (.int p2), some (.int p3), some (.int p4), some (.int p5), some (.ref q2), none, none] ⟨rfl, ⟨rfl, ⟨rfl, ⟨rfl, ⟨rfl, ⟨rfl, trivial⟩⟩⟩⟩⟩⟩ ?_
          exact f_BP_slip_56 sp d N p1 p2 p3 p4 p5 q2 S5 _ h
        · rw [if_neg c23] at h
          refine pE_jump 3 (pc' := 46) (ls' := [some (.ref a), some (.int p0), some (.int p1), some (.int p2), some (.int p3), some (.int p4), some (.int p5), some (.ref q2), none, none]) (st' := [.int p5, .int p4, .ref q2]) (fun _ => rfl) ?_
          obtain ⟨⟨v21, S20⟩, hv21, h⟩ := obind h
          try dsimp only at h
          refine pE_iv (Bs := [.int p4, .int p5]) (st := []) 1 rfl (Or.inl ⟨rfl, rfl⟩) rfl rfl (Nat.le_of_ble_eq_true rfl) (Nat.le_of_ble_eq_true rfl) (g_Plan_hasPair hv21) (f_Plan_hasPair sp (d + 1) N S5 q2 p4 p5 _ hv21) ?_
          refine pE_br (v21 = 0) rfl rfl (fun c22 => ?_) (fun c22 => ?_)
          · rw [if_pos c22] at h
            refine pE_weak [none, none, some (.int p1), some (.int p2), some (.int p3), some (.int p4), some (.int p5), some (.ref q2), none, none] ⟨rfl, ⟨rfl, ⟨rfl, ⟨rfl, ⟨rfl, ⟨rfl, trivial⟩⟩⟩⟩⟩⟩ ?_
            exact f_BP_slip_56 sp d N p1 p2 p3 p4 p5 q2 S20 _ h
          · rw [if_neg c22] at h
            refine pE_jump 2 (pc' := 57) (ls' := [some (.ref a), some (.int p0), some (.int p1), some (.int p2), some (.int p3), some (.int p4), some (.int p5), some (.ref q2), none, none]) (st' := [.int 1]) (fun _ => rfl) ?_
            refine pE_weak [none, none, some (.int p1), some (.int p2), some (.int p3), some (.int p4), some (.int p5), some (.ref q2), none, none] ⟨rfl, ⟨rfl, ⟨rfl, ⟨rfl, ⟨rfl, ⟨rfl, trivial⟩⟩⟩⟩⟩⟩ ?_
            exact f_BP_slip_57 sp d N p1 p2 p3 p4 p5 q2 1 S20 _ h
    · have c25 := Decidable.not_not.mp c25
      rw [if_pos c25] at h
      refine pE_weak [none, none, none, none, none, none, none, none, none, none] trivial ?_
      exact f_BP_slip_23 sp d N S3 _ h
