def F_M_trouble_33 (N : Nat)   (S : pm_S) : Option (Int32 × pm_S) :=
    some ((-1), S)
set_option maxHeartbeats 4000000 in
set_option maxRecDepth 20000 in
theorem f_M_trouble_33 (sp : pm_I → List Value → pm_S → pm_O → Prop) (d N : Nat)   (S : pm_S)  (r : (Int32 × pm_S)) (h : F_M_trouble_33 N   S = some r) : pmE pG (pm_rel pG sp (d + 3)) mi_M_trouble 33 [none, none, none, none, none, none, none, none, none] [] S (some (.int r.1), r.2) := by
  unfold F_M_trouble_33 at h
  refine pE_jump 1 (pc' := 34) (ls' := [none, none, none, none, none, none, none, none, none]) (st' := [.int (-1)]) (fun _ => rfl) ?_
  cases h
  exact pE_ret rfl rfl rfl
def F_M_trouble_119 (N : Nat)  (x0 : Nat) (x1 : Int32) (x2 : Int32) (x3 : Int32) (x4 : Int32) (x5 : Int32) (x6 : Int32) (t0 : Int32) (S : pm_S) : Option (Int32 × pm_S) :=
    if t0 = 0 then
    some ((-1), S)
    else
    ((oR S x0 11 20).bind fun oq12 => match oq12 with
    | none => none
    | some q12 =>
    (aI [0, 6] S q12 x1).bind fun v13 =>
    (oR S x0 11 21).bind fun oq14 => match oq14 with
    | none => none
    | some q14 =>
    (sI [0] S q14 ((10 * x1) + v13) x2).bind fun S15 =>
    (oR S15 x0 11 22).bind fun oq16 => match oq16 with
    | none => none
    | some q16 =>
    (sI [0] S15 q16 ((10 * x1) + v13) x3).bind fun S17 =>
    (oR S17 x0 11 23).bind fun oq18 => match oq18 with
    | none => none
    | some q18 =>
    (sI [0] S17 q18 ((10 * x1) + v13) x4).bind fun S19 =>
    (oR S19 x0 11 24).bind fun oq20 => match oq20 with
    | none => none
    | some q20 =>
    (sI [0] S19 q20 ((10 * x1) + v13) x5).bind fun S21 =>
    (oR S21 x0 11 25).bind fun oq22 => match oq22 with
    | none => none
    | some q22 =>
    (sI [0] S21 q22 ((10 * x1) + v13) x6).bind fun S23 =>
    (oR S23 x0 11 20).bind fun oq24 => match oq24 with
    | none => none
    | some q24 =>
    (aI [0, 6] S23 q24 x1).bind fun v25 =>
    (sI [0] S23 q24 x1 (v25 + 1)).bind fun S26 =>
    (oR S26 x0 11 20).bind fun oq27 => match oq27 with
    | none => none
    | some q27 =>
    (aI [0, 6] S26 q27 x1).bind fun v28 =>
    some (v28 - 1, S26))
set_option maxHeartbeats 4000000 in
set_option maxRecDepth 20000 in
theorem f_M_trouble_119 (sp : pm_I → List Value → pm_S → pm_O → Prop) (d N : Nat)  (x0 : Nat) (x1 : Int32) (x2 : Int32) (x3 : Int32) (x4 : Int32) (x5 : Int32) (x6 : Int32) (t0 : Int32) (S : pm_S)  (r : (Int32 × pm_S)) (h : F_M_trouble_119 N  x0 x1 x2 x3 x4 x5 x6 t0 S = some r) : pmE pG (pm_rel pG sp (d + 3)) mi_M_trouble 119 [some (.ref x0), some (.int x1), some (.int x2), some (.int x3), some (.int x4), some (.int x5), some (.int x6), none, none] [.int t0] S (some (.int r.1), r.2) := by
  unfold F_M_trouble_119 at h
  refine pE_jump 2 (pc' := 123) (ls' := [some (.ref x0), some (.int x1), some (.int x2), some (.int x3), some (.int x4), some (.int x5), some (.int x6), some (.int t0), none]) (st' := [.int t0]) (fun _ => rfl) ?_
  refine pE_br (¬ t0 = 0) rfl rfl (fun c29 => ?_) (fun c29 => ?_)
  · rw [if_neg c29] at h
    refine pE_jump 4 (pc' := 133) (ls' := [some (.ref x0), some (.int x1), some (.int x2), some (.int x3), some (.int x4), some (.int x5), some (.int x6), some (.int t0), none]) (st' := [.ref x0, .int (10 * x1)]) (fun _ => rfl) ?_
    obtain ⟨oq12, hq12, h⟩ := obind h
    cases oq12 with
    | none => cases h
    | some q12 =>
      try dsimp only at h
      refine pE_gfS rfl rfl hq12 ?_
      refine pE_jump 1 (pc' := 137) (ls' := [some (.ref x0), some (.int x1), some (.int x2), some (.int x3), some (.int x4), some (.int x5), some (.int x6), some (.int t0), none]) (st' := [.int x1, .ref q12, .int (10 * x1)]) (fun _ => rfl) ?_
      obtain ⟨v13, hv13, h⟩ := obind h
      refine pE_aI rfl rfl hv13 ?_
      refine pE_jump 3 (pc' := 142) (ls' := [some (.ref x0), some (.int x1), some (.int x2), some (.int x3), some (.int x4), some (.int x5), some (.int x6), some (.int t0), some (.int ((10 * x1) + v13))]) (st' := [.ref x0]) (fun _ => rfl) ?_
      obtain ⟨oq14, hq14, h⟩ := obind h
      cases oq14 with
      | none => cases h
      | some q14 =>
        try dsimp only at h
        refine pE_gfS rfl rfl hq14 ?_
        refine pE_jump 2 (pc' := 148) (ls' := [some (.ref x0), some (.int x1), some (.int x2), some (.int x3), some (.int x4), some (.int x5), some (.int x6), some (.int t0), some (.int ((10 * x1) + v13))]) (st' := [.int x2, .int ((10 * x1) + v13), .ref q14]) (fun _ => rfl) ?_
        obtain ⟨S15, hS15, h⟩ := obind h
        refine pE_sI rfl rfl hS15 ?_
        refine pE_jump 1 (pc' := 150) (ls' := [some (.ref x0), some (.int x1), some (.int x2), some (.int x3), some (.int x4), some (.int x5), some (.int x6), some (.int t0), some (.int ((10 * x1) + v13))]) (st' := [.ref x0]) (fun _ => rfl) ?_
        obtain ⟨oq16, hq16, h⟩ := obind h
        cases oq16 with
        | none => cases h
        | some q16 =>
          try dsimp only at h
          refine pE_gfS rfl rfl hq16 ?_
          refine pE_jump 2 (pc' := 156) (ls' := [some (.ref x0), some (.int x1), some (.int x2), some (.int x3), some (.int x4), some (.int x5), some (.int x6), some (.int t0), some (.int ((10 * x1) + v13))]) (st' := [.int x3, .int ((10 * x1) + v13), .ref q16]) (fun _ => rfl) ?_
          obtain ⟨S17, hS17, h⟩ := obind h
          refine pE_sI rfl rfl hS17 ?_
          refine pE_jump 1 (pc' := 158) (ls' := [some (.ref x0), some (.int x1), some (.int x2), some (.int x3), some (.int x4), some (.int x5), some (.int x6), some (.int t0), some (.int ((10 * x1) + v13))]) (st' := [.ref x0]) (fun _ => rfl) ?_
          obtain ⟨oq18, hq18, h⟩ := obind h
          cases oq18 with
          | none => cases h
          | some q18 =>
            try dsimp only at h
            refine pE_gfS rfl rfl hq18 ?_
            refine pE_jump 2 (pc' := 165) (ls' := [some (.ref x0), some (.int x1), some (.int x2), some (.int x3), some (.int x4), some (.int x5), some (.int x6), some (.int t0), some (.int ((10 * x1) + v13))]) (st' := [.int x4, .int ((10 * x1) + v13), .ref q18]) (fun _ => rfl) ?_
            obtain ⟨S19, hS19, h⟩ := obind h
            refine pE_sI rfl rfl hS19 ?_
            refine pE_jump 1 (pc' := 167) (ls' := [some (.ref x0), some (.int x1), some (.int x2), some (.int x3), some (.int x4), some (.int x5), some (.int x6), some (.int t0), some (.int ((10 * x1) + v13))]) (st' := [.ref x0]) (fun _ => rfl) ?_
            obtain ⟨oq20, hq20, h⟩ := obind h
            cases oq20 with
            | none => cases h
            | some q20 =>
              try dsimp only at h
              refine pE_gfS rfl rfl hq20 ?_
              refine pE_jump 2 (pc' := 174) (ls' := [some (.ref x0), some (.int x1), some (.int x2), some (.int x3), some (.int x4), some (.int x5), some (.int x6), some (.int t0), some (.int ((10 * x1) + v13))]) (st' := [.int x5, .int ((10 * x1) + v13), .ref q20]) (fun _ => rfl) ?_
              obtain ⟨S21, hS21, h⟩ := obind h
              refine pE_sI rfl rfl hS21 ?_
              refine pE_jump 1 (pc' := 176) (ls' := [some (.ref x0), some (.int x1), some (.int x2), some (.int x3), some (.int x4), some (.int x5), some (.int x6), some (.int t0), some (.int ((10 * x1) + v13))]) (st' := [.ref x0]) (fun _ => rfl) ?_
              obtain ⟨oq22, hq22, h⟩ := obind h
              cases oq22 with
              | none => cases h
              | some q22 =>
                try dsimp only at h
                refine pE_gfS rfl rfl hq22 ?_
                refine pE_jump 2 (pc' := 183) (ls' := [some (.ref x0), some (.int x1), some (.int x2), some (.int x3), some (.int x4), some (.int x5), some (.int x6), some (.int t0), some (.int ((10 * x1) + v13))]) (st' := [.int x6, .int ((10 * x1) + v13), .ref q22]) (fun _ => rfl) ?_
                obtain ⟨S23, hS23, h⟩ := obind h
                refine pE_sI rfl rfl hS23 ?_
                refine pE_jump 1 (pc' := 185) (ls' := [some (.ref x0), some (.int x1), some (.int x2), some (.int x3), some (.int x4), some (.int x5), some (.int x6), some (.int t0), some (.int ((10 * x1) + v13))]) (st' := [.ref x0]) (fun _ => rfl) ?_
                obtain ⟨oq24, hq24, h⟩ := obind h
                cases oq24 with
                | none => cases h
                | some q24 =>
                  try dsimp only at h
                  refine pE_gfS rfl rfl hq24 ?_
                  refine pE_jump 2 (pc' := 190) (ls' := [some (.ref x0), some (.int x1), some (.int x2), some (.int x3), some (.int x4), some (.int x5), some (.int x6), some (.int t0), some (.int ((10 * x1) + v13))]) (st' := [.int x1, .ref q24, .int x1, .ref q24]) (fun _ => rfl) ?_
                  obtain ⟨v25, hv25, h⟩ := obind h
                  refine pE_aI rfl rfl hv25 ?_
                  refine pE_jump 2 (pc' := 193) (ls' := [some (.ref x0), some (.int x1), some (.int x2), some (.int x3), some (.int x4), some (.int x5), some (.int x6), some (.int t0), some (.int ((10 * x1) + v13))]) (st' := [.int (v25 + 1), .int x1, .ref q24]) (fun _ => rfl) ?_
                  obtain ⟨S26, hS26, h⟩ := obind h
                  refine pE_sI rfl rfl hS26 ?_
                  refine pE_jump 1 (pc' := 195) (ls' := [some (.ref x0), some (.int x1), some (.int x2), some (.int x3), some (.int x4), some (.int x5), some (.int x6), some (.int t0), some (.int ((10 * x1) + v13))]) (st' := [.ref x0]) (fun _ => rfl) ?_
                  obtain ⟨oq27, hq27, h⟩ := obind h
                  cases oq27 with
                  | none => cases h
                  | some q27 =>
                    try dsimp only at h
                    refine pE_gfS rfl rfl hq27 ?_
                    refine pE_jump 1 (pc' := 199) (ls' := [some (.ref x0), some (.int x1), some (.int x2), some (.int x3), some (.int x4), some (.int x5), some (.int x6), some (.int t0), some (.int ((10 * x1) + v13))]) (st' := [.int x1, .ref q27]) (fun _ => rfl) ?_
                    obtain ⟨v28, hv28, h⟩ := obind h
                    refine pE_aI rfl rfl hv28 ?_
                    refine pE_jump 2 (pc' := 202) (ls' := [some (.ref x0), some (.int x1), some (.int x2), some (.int x3), some (.int x4), some (.int x5), some (.int x6), some (.int t0), some (.int ((10 * x1) + v13))]) (st' := [.int (v28 - 1)]) (fun _ => rfl) ?_
                    cases h
                    exact pE_ret rfl rfl rfl
  · have c29 := Decidable.not_not.mp c29
    rw [if_pos c29] at h
    refine pE_jump 1 (pc' := 127) (ls' := [some (.ref x0), some (.int x1), some (.int x2), some (.int x3), some (.int x4), some (.int x5), some (.int x6), some (.int t0), none]) (st' := [.int (-1)]) (fun _ => rfl) ?_
    cases h
    exact pE_ret rfl rfl rfl
def F_M_trouble_118 (N : Nat)  (x0 : Nat) (x1 : Int32) (x2 : Int32) (x3 : Int32) (x4 : Int32) (x5 : Int32) (x6 : Int32) (S : pm_S) : Option (Int32 × pm_S) :=
    F_M_trouble_119 N x0 x1 x2 x3 x4 x5 x6 0 S
set_option maxHeartbeats 4000000 in
set_option maxRecDepth 20000 in
theorem f_M_trouble_118 (sp : pm_I → List Value → pm_S → pm_O → Prop) (d N : Nat)  (x0 : Nat) (x1 : Int32) (x2 : Int32) (x3 : Int32) (x4 : Int32) (x5 : Int32) (x6 : Int32) (S : pm_S)  (r : (Int32 × pm_S)) (h : F_M_trouble_118 N  x0 x1 x2 x3 x4 x5 x6 S = some r) : pmE pG (pm_rel pG sp (d + 3)) mi_M_trouble 118 [some (.ref x0), some (.int x1), some (.int x2), some (.int x3), some (.int x4), some (.int x5), some (.int x6), none, none] [] S (some (.int r.1), r.2) := by
  unfold F_M_trouble_118 at h
  refine pE_jump 1 (pc' := 119) (ls' := [some (.ref x0), some (.int x1), some (.int x2), some (.int x3), some (.int x4), some (.int x5), some (.int x6), none, none]) (st' := [.int 0]) (fun _ => rfl) ?_
  exact f_M_trouble_119 sp d N x0 x1 x2 x3 x4 x5 x6 0 S _ h
def F_M_trouble_114 (N : Nat)  (x0 : Nat) (x1 : Int32) (x2 : Int32) (x3 : Int32) (x4 : Int32) (x5 : Int32) (x6 : Int32) (S : pm_S) : Option (Int32 × pm_S) :=
    F_M_trouble_119 N x0 x1 x2 x3 x4 x5 x6 1 S
set_option maxHeartbeats 4000000 in
set_option maxRecDepth 20000 in
theorem f_M_trouble_114 (sp : pm_I → List Value → pm_S → pm_O → Prop) (d N : Nat)  (x0 : Nat) (x1 : Int32) (x2 : Int32) (x3 : Int32) (x4 : Int32) (x5 : Int32) (x6 : Int32) (S : pm_S)  (r : (Int32 × pm_S)) (h : F_M_trouble_114 N  x0 x1 x2 x3 x4 x5 x6 S = some r) : pmE pG (pm_rel pG sp (d + 3)) mi_M_trouble 114 [some (.ref x0), some (.int x1), some (.int x2), some (.int x3), some (.int x4), some (.int x5), some (.int x6), none, none] [] S (some (.int r.1), r.2) := by
  unfold F_M_trouble_114 at h
  refine pE_jump 2 (pc' := 119) (ls' := [some (.ref x0), some (.int x1), some (.int x2), some (.int x3), some (.int x4), some (.int x5), some (.int x6), none, none]) (st' := [.int 1]) (fun _ => rfl) ?_
  exact f_M_trouble_119 sp d N x0 x1 x2 x3 x4 x5 x6 1 S _ h
def F_M_trouble_90 (N : Nat)  (x0 : Nat) (x1 : Int32) (x2 : Int32) (x3 : Int32) (x4 : Int32) (x5 : Int32) (x6 : Int32) (S : pm_S) : Option (Int32 × pm_S) :=
    if x2 = 0 then
    F_M_trouble_114 N x0 x1 x2 x3 x4 x5 x6 S
    else
    ((oR S x0 11 11).bind fun oq32 => match oq32 with
    | none => none
    | some q32 =>
    (aI [0, 6] S q32 ((7 * x1) + x3)).bind fun v33 =>
    (F_M_isIn N S x6 0 v33).bind fun (v35, S34) =>
    if v35 = 0 then
    F_M_trouble_118 N x0 x1 x2 x3 x4 x5 x6 S34
    else
    F_M_trouble_114 N x0 x1 x2 x3 x4 x5 x6 S34)
set_option maxHeartbeats 4000000 in
set_option maxRecDepth 20000 in
theorem f_M_trouble_90 (sp : pm_I → List Value → pm_S → pm_O → Prop) (d N : Nat)  (x0 : Nat) (x1 : Int32) (x2 : Int32) (x3 : Int32) (x4 : Int32) (x5 : Int32) (x6 : Int32) (S : pm_S)  (r : (Int32 × pm_S)) (h : F_M_trouble_90 N  x0 x1 x2 x3 x4 x5 x6 S = some r) : pmE pG (pm_rel pG sp (d + 3)) mi_M_trouble 90 [some (.ref x0), some (.int x1), some (.int x2), some (.int x3), some (.int x4), some (.int x5), some (.int x6), none, none] [] S (some (.int r.1), r.2) := by
  unfold F_M_trouble_90 at h
  refine pE_jump 1 (pc' := 91) (ls' := [some (.ref x0), some (.int x1), some (.int x2), some (.int x3), some (.int x4), some (.int x5), some (.int x6), none, none]) (st' := [.int x2]) (fun _ => rfl) ?_
  refine pE_br (x2 = 0) rfl rfl (fun c37 => ?_) (fun c37 => ?_)
  · rw [if_pos c37] at h
    exact f_M_trouble_114 sp d N x0 x1 x2 x3 x4 x5 x6 S _ h
  · rw [if_neg c37] at h
    refine pE_jump 3 (pc' := 98) (ls' := [some (.ref x0), some (.int x1), some (.int x2), some (.int x3), some (.int x4), some (.int x5), some (.int x6), none, none]) (st' := [.ref x0, .int 0, .int x6]) (fun _ => rfl) ?_
    obtain ⟨oq32, hq32, h⟩ := obind h
    cases oq32 with
    | none => cases h
    | some q32 =>
      try dsimp only at h
      refine pE_gfS rfl rfl hq32 ?_
      refine pE_jump 5 (pc' := 107) (ls' := [some (.ref x0), some (.int x1), some (.int x2), some (.int x3), some (.int x4), some (.int x5), some (.int x6), none, none]) (st' := [.int ((7 * x1) + x3), .ref q32, .int 0, .int x6]) (fun _ => rfl) ?_
      obtain ⟨v33, hv33, h⟩ := obind h
      refine pE_aI rfl rfl hv33 ?_
      obtain ⟨⟨v35, S34⟩, hv35, h⟩ := obind h
      try dsimp only at h
      refine pE_is (Bs := [.int x6, .int 0, .int v33]) (st := []) rfl rfl rfl (Nat.le_of_ble_eq_true rfl) (Nat.le_of_ble_eq_true rfl) (f_M_isIn sp (d + 2) N S x6 0 v33 _ hv35) ?_
      refine pE_br (v35 = 0) rfl rfl (fun c36 => ?_) (fun c36 => ?_)
      · rw [if_pos c36] at h
        exact f_M_trouble_118 sp d N x0 x1 x2 x3 x4 x5 x6 S34 _ h
      · rw [if_neg c36] at h
        exact f_M_trouble_114 sp d N x0 x1 x2 x3 x4 x5 x6 S34 _ h
def F_M_trouble (N : Nat) (S : pm_S) (a : Nat) (p0 : Int32) (p1 : Int32) (p2 : Int32) (p3 : Int32) (p4 : Int32) (p5 : Int32) : Option (Int32 × pm_S) :=
    if rcv S a 11 = true then
    ((wF S a 11 0 .int (.int 0)).bind fun S1 =>
    (F_M_isPlan N S1 a p0).bind fun (v3, S2) =>
    if v3 = 0 then
    F_M_trouble_33 N S2
    else
    ((oR S2 a 11 20).bind fun oq4 => match oq4 with
    | none => none
    | some q4 =>
    (aI [0, 6] S2 q4 p0).bind fun v5 =>
    if v5 = 10 then
    F_M_trouble_33 N S2
    else
    ((F_M_isIn N S2 p1 0 3).bind fun (v7, S6) =>
    if v7 = 0 then
    F_M_trouble_33 N S6
    else
    (if p1 = 3 then
    ((oR S6 a 11 18).bind fun oq8 => match oq8 with
    | none => none
    | some q8 =>
    (aI [0, 6] S6 q8 p0).bind fun v9 =>
    (F_M_isIn N S6 p2 0 (v9 - 1)).bind fun (v11, S10) =>
    F_M_trouble_119 N a p0 p1 p2 p3 p4 p5 v11 S10)
    else
    ((F_M_isPair N S6 a p0 p2 p3).bind fun (v31, S30) =>
    if v31 = 0 then
    F_M_trouble_118 N a p0 p1 p2 p3 p4 p5 S30
    else
    (if p1 = 1 then
    F_M_trouble_90 N a p0 p1 p2 p3 p4 p5 S30
    else
    ((F_M_isPair N S30 a p0 p2 p4).bind fun (v39, S38) =>
    if v39 = 0 then
    F_M_trouble_118 N a p0 p1 p2 p3 p4 p5 S38
    else
    (if p3 = p4 then
    F_M_trouble_118 N a p0 p1 p2 p3 p4 p5 S38
    else
    F_M_trouble_90 N a p0 p1 p2 p3 p4 p5 S38))))))))
    else none
theorem g_M_trouble {N : Nat} {S : pm_S} {a : Nat} {p0 : Int32} {p1 : Int32} {p2 : Int32} {p3 : Int32} {p4 : Int32} {p5 : Int32} {r : (Int32 × pm_S)} (h : F_M_trouble N S a p0 p1 p2 p3 p4 p5 = some r) : rcv S a 11 = true := by
  unfold F_M_trouble at h
  by_cases c : rcv S a 11 = true
  · exact c
  · rw [if_neg c] at h; cases h
set_option maxHeartbeats 4000000 in
set_option maxRecDepth 20000 in
theorem f_M_trouble (sp : pm_I → List Value → pm_S → pm_O → Prop) (d N : Nat) (S : pm_S) (a : Nat) (p0 : Int32) (p1 : Int32) (p2 : Int32) (p3 : Int32) (p4 : Int32) (p5 : Int32) (r : (Int32 × pm_S)) (h : F_M_trouble N S a p0 p1 p2 p3 p4 p5 = some r) : pm_rel pG sp (d + 4) mi_M_trouble [.ref a, .int p0, .int p1, .int p2, .int p3, .int p4, .int p5] S (some (.int r.1), r.2) := by
  have hg := g_M_trouble h
  unfold F_M_trouble at h
  rw [if_pos hg] at h
  refine pE_rel (d := d + 3) ?_
  show pmE pG _ mi_M_trouble 0 [some (.ref a), some (.int p0), some (.int p1), some (.int p2), some (.int p3), some (.int p4), some (.int p5), none, none] [] S _
  refine pE_jump 2 (pc' := 2) (ls' := [some (.ref a), some (.int p0), some (.int p1), some (.int p2), some (.int p3), some (.int p4), some (.int p5), none, none]) (st' := [.int 0, .ref a]) (fun _ => rfl) ?_
  obtain ⟨S1, hS1, h⟩ := obind h
  refine pE_pf rfl rfl rfl hS1 ?_
  refine pE_jump 2 (pc' := 7) (ls' := [some (.ref a), some (.int p0), some (.int p1), some (.int p2), some (.int p3), some (.int p4), some (.int p5), none, none]) (st' := [.int p0, .ref a]) (fun _ => rfl) ?_
  obtain ⟨⟨v3, S2⟩, hv3, h⟩ := obind h
  try dsimp only at h
  refine pE_iv (Bs := [.int p0]) (st := []) 1 rfl (Or.inl ⟨rfl, rfl⟩) rfl rfl (Nat.le_of_ble_eq_true rfl) (Nat.le_of_ble_eq_true rfl) (g_M_isPlan hv3) (f_M_isPlan sp (d + 2) N S1 a p0 _ hv3) ?_
  refine pE_br (v3 = 0) rfl rfl (fun c47 => ?_) (fun c47 => ?_)
  · rw [if_pos c47] at h
    refine pE_weak [none, none, none, none, none, none, none, none, none] trivial ?_
    exact f_M_trouble_33 sp d N S2 _ h
  · rw [if_neg c47] at h
    refine pE_jump 1 (pc' := 14) (ls' := [some (.ref a), some (.int p0), some (.int p1), some (.int p2), some (.int p3), some (.int p4), some (.int p5), none, none]) (st' := [.ref a]) (fun _ => rfl) ?_
    obtain ⟨oq4, hq4, h⟩ := obind h
    cases oq4 with
    | none => cases h
    | some q4 =>
      try dsimp only at h
      refine pE_gfS rfl rfl hq4 ?_
      refine pE_jump 1 (pc' := 18) (ls' := [some (.ref a), some (.int p0), some (.int p1), some (.int p2), some (.int p3), some (.int p4), some (.int p5), none, none]) (st' := [.int p0, .ref q4]) (fun _ => rfl) ?_
      obtain ⟨v5, hv5, h⟩ := obind h
      refine pE_aI rfl rfl hv5 ?_
      refine pE_jump 1 (pc' := 21) (ls' := [some (.ref a), some (.int p0), some (.int p1), some (.int p2), some (.int p3), some (.int p4), some (.int p5), none, none]) (st' := [.int 10, .int v5]) (fun _ => rfl) ?_
      refine pE_br (v5 = 10) rfl rfl (fun c46 => ?_) (fun c46 => ?_)
      · rw [if_pos c46] at h
        refine pE_weak [none, none, none, none, none, none, none, none, none] trivial ?_
        exact f_M_trouble_33 sp d N S2 _ h
      · rw [if_neg c46] at h
        refine pE_jump 3 (pc' := 27) (ls' := [some (.ref a), some (.int p0), some (.int p1), some (.int p2), some (.int p3), some (.int p4), some (.int p5), none, none]) (st' := [.int 3, .int 0, .int p1]) (fun _ => rfl) ?_
        obtain ⟨⟨v7, S6⟩, hv7, h⟩ := obind h
        try dsimp only at h
        refine pE_is (Bs := [.int p1, .int 0, .int 3]) (st := []) rfl rfl rfl (Nat.le_of_ble_eq_true rfl) (Nat.le_of_ble_eq_true rfl) (f_M_isIn sp (d + 2) N S2 p1 0 3 _ hv7) ?_
        refine pE_br (¬ v7 = 0) rfl rfl (fun c45 => ?_) (fun c45 => ?_)
        · rw [if_neg c45] at h
          refine pE_jump 2 (pc' := 37) (ls' := [some (.ref a), some (.int p0), some (.int p1), some (.int p2), some (.int p3), some (.int p4), some (.int p5), none, none]) (st' := [.int 3, .int p1]) (fun _ => rfl) ?_
          refine pE_br (¬ p1 = 3) rfl rfl (fun c44 => ?_) (fun c44 => ?_)
          · rw [if_neg c44] at h
            refine pE_jump 4 (pc' := 61) (ls' := [some (.ref a), some (.int p0), some (.int p1), some (.int p2), some (.int p3), some (.int p4), some (.int p5), none, none]) (st' := [.int p3, .int p2, .int p0, .ref a]) (fun _ => rfl) ?_
            obtain ⟨⟨v31, S30⟩, hv31, h⟩ := obind h
            try dsimp only at h
            refine pE_iv (Bs := [.int p0, .int p2, .int p3]) (st := []) 1 rfl (Or.inl ⟨rfl, rfl⟩) rfl rfl (Nat.le_of_ble_eq_true rfl) (Nat.le_of_ble_eq_true rfl) (g_M_isPair hv31) (f_M_isPair sp d N S6 a p0 p2 p3 _ hv31) ?_
            refine pE_br (v31 = 0) rfl rfl (fun c43 => ?_) (fun c43 => ?_)
            · rw [if_pos c43] at h
              exact f_M_trouble_118 sp d N a p0 p1 p2 p3 p4 p5 S30 _ h
            · rw [if_neg c43] at h
              refine pE_jump 2 (pc' := 69) (ls' := [some (.ref a), some (.int p0), some (.int p1), some (.int p2), some (.int p3), some (.int p4), some (.int p5), none, none]) (st' := [.int 1, .int p1]) (fun _ => rfl) ?_
              refine pE_br (p1 = 1) rfl rfl (fun c42 => ?_) (fun c42 => ?_)
              · rw [if_pos c42] at h
                exact f_M_trouble_90 sp d N a p0 p1 p2 p3 p4 p5 S30 _ h
              · rw [if_neg c42] at h
                refine pE_jump 4 (pc' := 77) (ls' := [some (.ref a), some (.int p0), some (.int p1), some (.int p2), some (.int p3), some (.int p4), some (.int p5), none, none]) (st' := [.int p4, .int p2, .int p0, .ref a]) (fun _ => rfl) ?_
                obtain ⟨⟨v39, S38⟩, hv39, h⟩ := obind h
                try dsimp only at h
                refine pE_iv (Bs := [.int p0, .int p2, .int p4]) (st := []) 1 rfl (Or.inl ⟨rfl, rfl⟩) rfl rfl (Nat.le_of_ble_eq_true rfl) (Nat.le_of_ble_eq_true rfl) (g_M_isPair hv39) (f_M_isPair sp d N S30 a p0 p2 p4 _ hv39) ?_
                refine pE_br (v39 = 0) rfl rfl (fun c41 => ?_) (fun c41 => ?_)
                · rw [if_pos c41] at h
                  exact f_M_trouble_118 sp d N a p0 p1 p2 p3 p4 p5 S38 _ h
                · rw [if_neg c41] at h
                  refine pE_jump 2 (pc' := 87) (ls' := [some (.ref a), some (.int p0), some (.int p1), some (.int p2), some (.int p3), some (.int p4), some (.int p5), none, none]) (st' := [.int p4, .int p3]) (fun _ => rfl) ?_
                  refine pE_br (p3 = p4) rfl rfl (fun c40 => ?_) (fun c40 => ?_)
                  · rw [if_pos c40] at h
                    exact f_M_trouble_118 sp d N a p0 p1 p2 p3 p4 p5 S38 _ h
                  · rw [if_neg c40] at h
                    exact f_M_trouble_90 sp d N a p0 p1 p2 p3 p4 p5 S38 _ h
          · have c44 := Decidable.not_not.mp c44
            rw [if_pos c44] at h
            refine pE_jump 3 (pc' := 43) (ls' := [some (.ref a), some (.int p0), some (.int p1), some (.int p2), some (.int p3), some (.int p4), some (.int p5), none, none]) (st' := [.ref a, .int 0, .int p2]) (fun _ => rfl) ?_
            obtain ⟨oq8, hq8, h⟩ := obind h
            cases oq8 with
            | none => cases h
            | some q8 =>
              try dsimp only at h
              refine pE_gfS rfl rfl hq8 ?_
              refine pE_jump 1 (pc' := 47) (ls' := [some (.ref a), some (.int p0), some (.int p1), some (.int p2), some (.int p3), some (.int p4), some (.int p5), none, none]) (st' := [.int p0, .ref q8, .int 0, .int p2]) (fun _ => rfl) ?_
              obtain ⟨v9, hv9, h⟩ := obind h
              refine pE_aI rfl rfl hv9 ?_
              refine pE_jump 2 (pc' := 50) (ls' := [some (.ref a), some (.int p0), some (.int p1), some (.int p2), some (.int p3), some (.int p4), some (.int p5), none, none]) (st' := [.int (v9 - 1), .int 0, .int p2]) (fun _ => rfl) ?_
              obtain ⟨⟨v11, S10⟩, hv11, h⟩ := obind h
              try dsimp only at h
              refine pE_is (Bs := [.int p2, .int 0, .int (v9 - 1)]) (st := []) rfl rfl rfl (Nat.le_of_ble_eq_true rfl) (Nat.le_of_ble_eq_true rfl) (f_M_isIn sp (d + 2) N S6 p2 0 (v9 - 1) _ hv11) ?_
              refine pE_jump 1 (pc' := 119) (ls' := [some (.ref a), some (.int p0), some (.int p1), some (.int p2), some (.int p3), some (.int p4), some (.int p5), none, none]) (st' := [.int v11]) (fun _ => rfl) ?_
              exact f_M_trouble_119 sp d N a p0 p1 p2 p3 p4 p5 v11 S10 _ h
        · have c45 := Decidable.not_not.mp c45
          rw [if_pos c45] at h
          refine pE_weak [none, none, none, none, none, none, none, none, none] trivial ?_
          exact f_M_trouble_33 sp d N S6 _ h
def F_M_troubles_23 (N : Nat)  (t0 : Int32) (S : pm_S) : Option (Int32 × pm_S) :=
    some (t0, S)
set_option maxHeartbeats 4000000 in
set_option maxRecDepth 20000 in
theorem f_M_troubles_23 (sp : pm_I → List Value → pm_S → pm_O → Prop) (d N : Nat)  (t0 : Int32) (S : pm_S)  (r : (Int32 × pm_S)) (h : F_M_troubles_23 N  t0 S = some r) : pmE pG (pm_rel pG sp (d + 1)) mi_M_troubles 23 [none, none] [.int t0] S (some (.int r.1), r.2) := by
  unfold F_M_troubles_23 at h
  cases h
  exact pE_ret rfl rfl rfl
def F_M_troubles (N : Nat) (S : pm_S) (a : Nat) (p0 : Int32) : Option (Int32 × pm_S) :=
    if rcv S a 11 = true then
    ((wF S a 11 0 .int (.int 0)).bind fun S1 =>
    (F_M_isPlan N S1 a p0).bind fun (v3, S2) =>
    if v3 = 0 then
    F_M_troubles_23 N (-1) S2
    else
    ((oR S2 a 11 20).bind fun oq4 => match oq4 with
    | none => none
    | some q4 =>
    (aI [0, 6] S2 q4 p0).bind fun v5 =>
    F_M_troubles_23 N v5 S2))
    else none
theorem g_M_troubles {N : Nat} {S : pm_S} {a : Nat} {p0 : Int32} {r : (Int32 × pm_S)} (h : F_M_troubles N S a p0 = some r) : rcv S a 11 = true := by
  unfold F_M_troubles at h
  by_cases c : rcv S a 11 = true
  · exact c
  · rw [if_neg c] at h; cases h
set_option maxHeartbeats 4000000 in
set_option maxRecDepth 20000 in
theorem f_M_troubles (sp : pm_I → List Value → pm_S → pm_O → Prop) (d N : Nat) (S : pm_S) (a : Nat) (p0 : Int32) (r : (Int32 × pm_S)) (h : F_M_troubles N S a p0 = some r) : pm_rel pG sp (d + 2) mi_M_troubles [.ref a, .int p0] S (some (.int r.1), r.2) := by
  have hg := g_M_troubles h
  unfold F_M_troubles at h
  rw [if_pos hg] at h
  refine pE_rel (d := d + 1) ?_
  show pmE pG _ mi_M_troubles 0 [some (.ref a), some (.int p0)] [] S _
  refine pE_jump 2 (pc' := 2) (ls' := [some (.ref a), some (.int p0)]) (st' := [.int 0, .ref a]) (fun _ => rfl) ?_
  obtain ⟨S1, hS1, h⟩ := obind h
  refine pE_pf rfl rfl rfl hS1 ?_
  refine pE_jump 2 (pc' := 7) (ls' := [some (.ref a), some (.int p0)]) (st' := [.int p0, .ref a]) (fun _ => rfl) ?_
  obtain ⟨⟨v3, S2⟩, hv3, h⟩ := obind h
  try dsimp only at h
  refine pE_iv (Bs := [.int p0]) (st := []) 1 rfl (Or.inl ⟨rfl, rfl⟩) rfl rfl (Nat.le_of_ble_eq_true rfl) (Nat.le_of_ble_eq_true rfl) (g_M_isPlan hv3) (f_M_isPlan sp d N S1 a p0 _ hv3) ?_
  refine pE_br (v3 = 0) rfl rfl (fun c6 => ?_) (fun c6 => ?_)
  · rw [if_pos c6] at h
    refine pE_jump 1 (pc' := 23) (ls' := [some (.ref a), some (.int p0)]) (st' := [.int (-1)]) (fun _ => rfl) ?_
    refine pE_weak [none, none] trivial ?_
    exact f_M_troubles_23 sp d N (-1) S2 _ h
  · rw [if_neg c6] at h
    refine pE_jump 1 (pc' := 14) (ls' := [some (.ref a), some (.int p0)]) (st' := [.ref a]) (fun _ => rfl) ?_
    obtain ⟨oq4, hq4, h⟩ := obind h
    cases oq4 with
    | none => cases h
    | some q4 =>
      try dsimp only at h
      refine pE_gfS rfl rfl hq4 ?_
      refine pE_jump 1 (pc' := 18) (ls' := [some (.ref a), some (.int p0)]) (st' := [.int p0, .ref q4]) (fun _ => rfl) ?_
      obtain ⟨v5, hv5, h⟩ := obind h
      refine pE_aI rfl rfl hv5 ?_
      refine pE_jump 1 (pc' := 23) (ls' := [some (.ref a), some (.int p0)]) (st' := [.int v5]) (fun _ => rfl) ?_
      refine pE_weak [none, none] trivial ?_
      exact f_M_troubles_23 sp d N v5 S2 _ h
def F_M_isWorld_29 (N : Nat)  (t0 : Int32) (S : pm_S) : Option (Int32 × pm_S) :=
    if t0 = 0 ∨ t0 = 1 then some (t0, S) else none
set_option maxHeartbeats 4000000 in
set_option maxRecDepth 20000 in
theorem f_M_isWorld_29 (sp : pm_I → List Value → pm_S → pm_O → Prop) (d N : Nat)  (t0 : Int32) (S : pm_S)  (r : (Int32 × pm_S)) (h : F_M_isWorld_29 N  t0 S = some r) : pmE pG (pm_rel pG sp (d + 1)) mi_M_isWorld 29 [none, none, none] [.int t0] S (some (.int r.1), r.2) := by
  unfold F_M_isWorld_29 at h
  by_cases c3 : t0 = 0 ∨ t0 = 1
  · rw [if_pos c3] at h
    cases h
    exact pE_ret rfl (if_pos c3) rfl
  · rw [if_neg c3] at h
    cases h
def F_M_isWorld_28 (N : Nat)   (S : pm_S) : Option (Int32 × pm_S) :=
    F_M_isWorld_29 N 0 S
set_option maxHeartbeats 4000000 in
set_option maxRecDepth 20000 in
theorem f_M_isWorld_28 (sp : pm_I → List Value → pm_S → pm_O → Prop) (d N : Nat)   (S : pm_S)  (r : (Int32 × pm_S)) (h : F_M_isWorld_28 N   S = some r) : pmE pG (pm_rel pG sp (d + 1)) mi_M_isWorld 28 [none, none, none] [] S (some (.int r.1), r.2) := by
  unfold F_M_isWorld_28 at h
  refine pE_jump 1 (pc' := 29) (ls' := [none, none, none]) (st' := [.int 0]) (fun _ => rfl) ?_
  exact f_M_isWorld_29 sp d N 0 S _ h
def F_M_isWorld (N : Nat) (S : pm_S) (a : Nat) (p0 : Int32) (p1 : Int32) : Option (Int32 × pm_S) :=
    if rcv S a 11 = true then
    ((F_M_isPlan N S a p0).bind fun (v2, S1) =>
    if v2 = 0 then
    F_M_isWorld_28 N S1
    else
    (if p1 < 0 then
    F_M_isWorld_28 N S1
    else
    ((oR S1 a 11 20).bind fun oq4 => match oq4 with
    | none => none
    | some q4 =>
    (aI [0, 6] S1 q4 p0).bind fun v5 =>
    if (1 <<< (v5 &&& 31)) ≤ p1 then
    F_M_isWorld_28 N S1
    else
    F_M_isWorld_29 N 1 S1)))
    else none
theorem g_M_isWorld {N : Nat} {S : pm_S} {a : Nat} {p0 : Int32} {p1 : Int32} {r : (Int32 × pm_S)} (h : F_M_isWorld N S a p0 p1 = some r) : rcv S a 11 = true := by
  unfold F_M_isWorld at h
  by_cases c : rcv S a 11 = true
  · exact c
  · rw [if_neg c] at h; cases h
set_option maxHeartbeats 4000000 in
set_option maxRecDepth 20000 in
theorem f_M_isWorld (sp : pm_I → List Value → pm_S → pm_O → Prop) (d N : Nat) (S : pm_S) (a : Nat) (p0 : Int32) (p1 : Int32) (r : (Int32 × pm_S)) (h : F_M_isWorld N S a p0 p1 = some r) : pm_rel pG sp (d + 2) mi_M_isWorld [.ref a, .int p0, .int p1] S (some (.int r.1), r.2) := by
  have hg := g_M_isWorld h
  unfold F_M_isWorld at h
  rw [if_pos hg] at h
  refine pE_rel (d := d + 1) ?_
  show pmE pG _ mi_M_isWorld 0 [some (.ref a), some (.int p0), some (.int p1)] [] S _
  refine pE_jump 2 (pc' := 2) (ls' := [some (.ref a), some (.int p0), some (.int p1)]) (st' := [.int p0, .ref a]) (fun _ => rfl) ?_
  obtain ⟨⟨v2, S1⟩, hv2, h⟩ := obind h
  try dsimp only at h
  refine pE_iv (Bs := [.int p0]) (st := []) 1 rfl (Or.inl ⟨rfl, rfl⟩) rfl rfl (Nat.le_of_ble_eq_true rfl) (Nat.le_of_ble_eq_true rfl) (g_M_isPlan hv2) (f_M_isPlan sp d N S a p0 _ hv2) ?_
  refine pE_br (v2 = 0) rfl rfl (fun c8 => ?_) (fun c8 => ?_)
  · rw [if_pos c8] at h
    refine pE_weak [none, none, none] trivial ?_
    exact f_M_isWorld_28 sp d N S1 _ h
  · rw [if_neg c8] at h
    refine pE_jump 1 (pc' := 9) (ls' := [some (.ref a), some (.int p0), some (.int p1)]) (st' := [.int p1]) (fun _ => rfl) ?_
    refine pE_br (p1 < 0) rfl rfl (fun c7 => ?_) (fun c7 => ?_)
    · rw [if_pos c7] at h
      refine pE_weak [none, none, none] trivial ?_
      exact f_M_isWorld_28 sp d N S1 _ h
    · rw [if_neg c7] at h
      refine pE_jump 3 (pc' := 15) (ls' := [some (.ref a), some (.int p0), some (.int p1)]) (st' := [.ref a, .int 1, .int p1]) (fun _ => rfl) ?_
      obtain ⟨oq4, hq4, h⟩ := obind h
      cases oq4 with
      | none => cases h
      | some q4 =>
        try dsimp only at h
        refine pE_gfS rfl rfl hq4 ?_
        refine pE_jump 1 (pc' := 19) (ls' := [some (.ref a), some (.int p0), some (.int p1)]) (st' := [.int p0, .ref q4, .int 1, .int p1]) (fun _ => rfl) ?_
        obtain ⟨v5, hv5, h⟩ := obind h
        refine pE_aI rfl rfl hv5 ?_
        refine pE_jump 1 (pc' := 21) (ls' := [some (.ref a), some (.int p0), some (.int p1)]) (st' := [.int (1 <<< (v5 &&& 31)), .int p1]) (fun _ => rfl) ?_
        refine pE_br ((1 <<< (v5 &&& 31)) ≤ p1) rfl rfl (fun c6 => ?_) (fun c6 => ?_)
        · rw [if_pos c6] at h
          refine pE_weak [none, none, none] trivial ?_
          exact f_M_isWorld_28 sp d N S1 _ h
        · rw [if_neg c6] at h
          refine pE_jump 2 (pc' := 29) (ls' := [some (.ref a), some (.int p0), some (.int p1)]) (st' := [.int 1]) (fun _ => rfl) ?_
          refine pE_weak [none, none, none] trivial ?_
          exact f_M_isWorld_29 sp d N 1 S1 _ h
def F_M_isEnd (N : Nat) (S : pm_S) (p0 : Int32) : Option (Int32 × pm_S) :=
    (F_M_isIn N S p0 0 1).bind fun (v2, S1) =>
    if v2 = 0 ∨ v2 = 1 then some (v2, S1) else none
set_option maxHeartbeats 4000000 in
set_option maxRecDepth 20000 in
theorem f_M_isEnd (sp : pm_I → List Value → pm_S → pm_O → Prop) (d N : Nat) (S : pm_S) (p0 : Int32) (r : (Int32 × pm_S)) (h : F_M_isEnd N S p0 = some r) : pm_rel pG sp (d + 2) mi_M_isEnd [.int p0] S (some (.int r.1), r.2) := by
  unfold F_M_isEnd at h
  refine pE_rel (d := d + 1) ?_
  show pmE pG _ mi_M_isEnd 0 [some (.int p0)] [] S _
  refine pE_jump 3 (pc' := 3) (ls' := [some (.int p0)]) (st' := [.int 1, .int 0, .int p0]) (fun _ => rfl) ?_
  obtain ⟨⟨v2, S1⟩, hv2, h⟩ := obind h
  try dsimp only at h
  refine pE_is (Bs := [.int p0, .int 0, .int 1]) (st := []) rfl rfl rfl (Nat.le_of_ble_eq_true rfl) (Nat.le_of_ble_eq_true rfl) (f_M_isIn sp d N S p0 0 1 _ hv2) ?_
  by_cases c3 : v2 = 0 ∨ v2 = 1
  · rw [if_pos c3] at h
    cases h
    exact pE_ret rfl (if_pos c3) rfl
  · rw [if_neg c3] at h
    cases h
def F_M_isSo_17 (N : Nat)  (t0 : Int32) (S : pm_S) : Option (Int32 × pm_S) :=
    if t0 = 0 ∨ t0 = 1 then some (t0, S) else none
set_option maxHeartbeats 4000000 in
set_option maxRecDepth 20000 in
theorem f_M_isSo_17 (sp : pm_I → List Value → pm_S → pm_O → Prop) (d N : Nat)  (t0 : Int32) (S : pm_S)  (r : (Int32 × pm_S)) (h : F_M_isSo_17 N  t0 S = some r) : pmE pG (pm_rel pG sp (d + 0)) mi_M_isSo 17 [none, none] [.int t0] S (some (.int r.1), r.2) := by
  unfold F_M_isSo_17 at h
  by_cases c2 : t0 = 0 ∨ t0 = 1
  · rw [if_pos c2] at h
    cases h
    exact pE_ret rfl (if_pos c2) rfl
  · rw [if_neg c2] at h
    cases h
def F_M_isSo (N : Nat) (S : pm_S) (a : Nat) (p0 : Int32) : Option (Int32 × pm_S) :=
    if rcv S a 11 = true then
    ((oI S a 11 30).bind fun v1 =>
    if ((v1 >>> (p0 &&& 31)) &&& 1) = 1 then
    F_M_isSo_17 N 1 S
    else
    F_M_isSo_17 N 0 S)
    else none
theorem g_M_isSo {N : Nat} {S : pm_S} {a : Nat} {p0 : Int32} {r : (Int32 × pm_S)} (h : F_M_isSo N S a p0 = some r) : rcv S a 11 = true := by
  unfold F_M_isSo at h
  by_cases c : rcv S a 11 = true
  · exact c
  · rw [if_neg c] at h; cases h
set_option maxHeartbeats 4000000 in
set_option maxRecDepth 20000 in
theorem f_M_isSo (sp : pm_I → List Value → pm_S → pm_O → Prop) (d N : Nat) (S : pm_S) (a : Nat) (p0 : Int32) (r : (Int32 × pm_S)) (h : F_M_isSo N S a p0 = some r) : pm_rel pG sp (d + 1) mi_M_isSo [.ref a, .int p0] S (some (.int r.1), r.2) := by
  have hg := g_M_isSo h
  unfold F_M_isSo at h
  rw [if_pos hg] at h
  refine pE_rel (d := d + 0) ?_
  show pmE pG _ mi_M_isSo 0 [some (.ref a), some (.int p0)] [] S _
  refine pE_jump 1 (pc' := 1) (ls' := [some (.ref a), some (.int p0)]) (st' := [.ref a]) (fun _ => rfl) ?_
  obtain ⟨v1, hv1, h⟩ := obind h
  refine pE_gfI rfl rfl hv1 ?_
  refine pE_jump 5 (pc' := 9) (ls' := [some (.ref a), some (.int p0)]) (st' := [.int 1, .int ((v1 >>> (p0 &&& 31)) &&& 1)]) (fun _ => rfl) ?_
  refine pE_br (¬ ((v1 >>> (p0 &&& 31)) &&& 1) = 1) rfl rfl (fun c3 => ?_) (fun c3 => ?_)
  · rw [if_neg c3] at h
    refine pE_jump 1 (pc' := 17) (ls' := [some (.ref a), some (.int p0)]) (st' := [.int 0]) (fun _ => rfl) ?_
    refine pE_weak [none, none] trivial ?_
    exact f_M_isSo_17 sp d N 0 S _ h
  · have c3 := Decidable.not_not.mp c3
    rw [if_pos c3] at h
    refine pE_jump 2 (pc' := 17) (ls' := [some (.ref a), some (.int p0)]) (st' := [.int 1]) (fun _ => rfl) ?_
    refine pE_weak [none, none] trivial ?_
    exact f_M_isSo_17 sp d N 1 S _ h
def F_M_isUndone_67 (N : Nat)   (S : pm_S) : Option (Int32 × pm_S) :=
    some (0, S)
set_option maxHeartbeats 4000000 in
set_option maxRecDepth 20000 in
theorem f_M_isUndone_67 (sp : pm_I → List Value → pm_S → pm_O → Prop) (d N : Nat)   (S : pm_S)  (r : (Int32 × pm_S)) (h : F_M_isUndone_67 N   S = some r) : pmE pG (pm_rel pG sp (d + 1)) mi_M_isUndone 67 [none, none, none] [] S (some (.int r.1), r.2) := by
  unfold F_M_isUndone_67 at h
  refine pE_jump 1 (pc' := 68) (ls' := [none, none, none]) (st' := [.int 0]) (fun _ => rfl) ?_
  cases h
  exact pE_ret rfl rfl rfl
def F_M_isUndone_61 (N : Nat) (rec2 : Int32 → pm_S → Option (Int32 × pm_S)) (x0 : Nat) (x1 : Int32) (x2 : Int32) (S : pm_S) : Option (Int32 × pm_S) :=
    rec2 (x2 + 1) S
set_option maxHeartbeats 4000000 in
set_option maxRecDepth 20000 in
theorem f_M_isUndone_61 (sp : pm_I → List Value → pm_S → pm_O → Prop) (d N : Nat) (rec2 : Int32 → pm_S → Option (Int32 × pm_S)) (x0 : Nat) (x1 : Int32) (x2 : Int32) (S : pm_S) (hrec2 : ∀ (y1 : Int32) (U : pm_S) (r : (Int32 × pm_S)), rec2 y1 U = some r → pmE pG (pm_rel pG sp (d + 1)) mi_M_isUndone 2 [some (.ref x0), some (.int x1), some (.int y1)] [] U (some (.int r.1), r.2)) (r : (Int32 × pm_S)) (h : F_M_isUndone_61 N rec2 x0 x1 x2 S = some r) : pmE pG (pm_rel pG sp (d + 1)) mi_M_isUndone 61 [some (.ref x0), some (.int x1), some (.int x2)] [] S (some (.int r.1), r.2) := by
  unfold F_M_isUndone_61 at h
  refine pE_jump 2 (pc' := 2) (ls' := [some (.ref x0), some (.int x1), some (.int (x2 + 1))]) (st' := []) (fun _ => rfl) ?_
  exact hrec2 (x2 + 1) S _ h
def F_M_isUndone_59 (N : Nat)   (S : pm_S) : Option (Int32 × pm_S) :=
    some (1, S)
set_option maxHeartbeats 4000000 in
set_option maxRecDepth 20000 in
theorem f_M_isUndone_59 (sp : pm_I → List Value → pm_S → pm_O → Prop) (d N : Nat)   (S : pm_S)  (r : (Int32 × pm_S)) (h : F_M_isUndone_59 N   S = some r) : pmE pG (pm_rel pG sp (d + 1)) mi_M_isUndone 59 [none, none, none] [] S (some (.int r.1), r.2) := by
  unfold F_M_isUndone_59 at h
  refine pE_jump 1 (pc' := 60) (ls' := [none, none, none]) (st' := [.int 1]) (fun _ => rfl) ?_
  cases h
  exact pE_ret rfl rfl rfl
def B_M_isUndone_2 (N : Nat)  (rec2 : Int32 → pm_S → Option (Int32 × pm_S)) (x0 : Nat) (x1 : Int32) (x2 : Int32) (S : pm_S) : Option (Int32 × pm_S) :=
    (oR S x0 11 20).bind fun oq1 => match oq1 with
    | none => none
    | some q1 =>
    (oI S x0 11 29).bind fun v3 =>
    (aI [0, 6] S q1 v3).bind fun v4 =>
    if v4 ≤ x2 then
    F_M_isUndone_67 N S
    else
    ((F_M_isSo N S x0 x2).bind fun (v6, S5) =>
    if v6 = 0 then
    F_M_isUndone_61 N rec2 x0 x1 x2 S5
    else
    ((oR S5 x0 11 21).bind fun oq7 => match oq7 with
    | none => none
    | some q7 =>
    (oI S5 x0 11 29).bind fun v9 =>
    (aI [0, 6] S5 q7 ((10 * v9) + x2)).bind fun v10 =>
    if v10 = 3 then
    ((oR S5 x0 11 22).bind fun oq11 => match oq11 with
    | none => none
    | some q11 =>
    (oI S5 x0 11 29).bind fun v13 =>
    (aI [0, 6] S5 q11 ((10 * v13) + x2)).bind fun v14 =>
    if v14 = x1 then
    F_M_isUndone_59 N S5
    else
    F_M_isUndone_61 N rec2 x0 x1 x2 S5)
    else
    F_M_isUndone_61 N rec2 x0 x1 x2 S5))
def F_M_isUndone_2 (N : Nat)  (x0 : Nat) (x1 : Int32) : Nat → Int32 → pm_S → Option (Int32 × pm_S)
  | 0 => fun _ _ => none
  | n + 1 => fun x2 S => B_M_isUndone_2 N  (F_M_isUndone_2 N  x0 x1 n) x0 x1 x2 S
set_option maxHeartbeats 4000000 in
set_option maxRecDepth 20000 in
theorem f_M_isUndone_2 (sp : pm_I → List Value → pm_S → pm_O → Prop) (d N : Nat)  (x0 : Nat) (x1 : Int32)  : ∀ (n : Nat) (x2 : Int32) (S : pm_S) (r : (Int32 × pm_S)), F_M_isUndone_2 N  x0 x1 n x2 S = some r → pmE pG (pm_rel pG sp (d + 1)) mi_M_isUndone 2 [some (.ref x0), some (.int x1), some (.int x2)] [] S (some (.int r.1), r.2) := by
  intro n
  induction n with
  | zero =>
    intro x2 S r h
    cases h
  | succ n ih =>
    intro x2 S r h
    replace h : B_M_isUndone_2 N  (F_M_isUndone_2 N  x0 x1 n) x0 x1 x2 S = some r := h
    have hrec2 := ih
    generalize F_M_isUndone_2 N  x0 x1 n = rec2 at h hrec2
    unfold B_M_isUndone_2 at h
    refine pE_jump 2 (pc' := 4) (ls' := [some (.ref x0), some (.int x1), some (.int x2)]) (st' := [.ref x0, .int x2]) (fun _ => rfl) ?_
    obtain ⟨oq1, hq1, h⟩ := obind h
    cases oq1 with
    | none => cases h
    | some q1 =>
      try dsimp only at h
      refine pE_gfS rfl rfl hq1 ?_
      refine pE_jump 1 (pc' := 8) (ls' := [some (.ref x0), some (.int x1), some (.int x2)]) (st' := [.ref x0, .ref q1, .int x2]) (fun _ => rfl) ?_
      obtain ⟨v3, hv3, h⟩ := obind h
      refine pE_gfI rfl rfl hv3 ?_
      obtain ⟨v4, hv4, h⟩ := obind h
      refine pE_aI rfl rfl hv4 ?_
      refine pE_br (v4 ≤ x2) rfl rfl (fun c18 => ?_) (fun c18 => ?_)
      · rw [if_pos c18] at h
        refine pE_weak [none, none, none] trivial ?_
        exact f_M_isUndone_67 sp d N S _ h
      · rw [if_neg c18] at h
        refine pE_jump 2 (pc' := 17) (ls' := [some (.ref x0), some (.int x1), some (.int x2)]) (st' := [.int x2, .ref x0]) (fun _ => rfl) ?_
        obtain ⟨⟨v6, S5⟩, hv6, h⟩ := obind h
        try dsimp only at h
        refine pE_iv (Bs := [.int x2]) (st := []) 1 rfl (Or.inl ⟨rfl, rfl⟩) rfl rfl (Nat.le_of_ble_eq_true rfl) (Nat.le_of_ble_eq_true rfl) (g_M_isSo hv6) (f_M_isSo sp d N S x0 x2 _ hv6) ?_
        refine pE_br (v6 = 0) rfl rfl (fun c17 => ?_) (fun c17 => ?_)
        · rw [if_pos c17] at h
          exact f_M_isUndone_61 sp d N rec2 x0 x1 x2 S5 hrec2 _ h
        · rw [if_neg c17] at h
          refine pE_jump 1 (pc' := 24) (ls' := [some (.ref x0), some (.int x1), some (.int x2)]) (st' := [.ref x0]) (fun _ => rfl) ?_
          obtain ⟨oq7, hq7, h⟩ := obind h
          cases oq7 with
          | none => cases h
          | some q7 =>
            try dsimp only at h
            refine pE_gfS rfl rfl hq7 ?_
            refine pE_jump 2 (pc' := 30) (ls' := [some (.ref x0), some (.int x1), some (.int x2)]) (st' := [.ref x0, .int 10, .ref q7]) (fun _ => rfl) ?_
            obtain ⟨v9, hv9, h⟩ := obind h
            refine pE_gfI rfl rfl hv9 ?_
            refine pE_jump 3 (pc' := 36) (ls' := [some (.ref x0), some (.int x1), some (.int x2)]) (st' := [.int ((10 * v9) + x2), .ref q7]) (fun _ => rfl) ?_
            obtain ⟨v10, hv10, h⟩ := obind h
            refine pE_aI rfl rfl hv10 ?_
            refine pE_jump 1 (pc' := 38) (ls' := [some (.ref x0), some (.int x1), some (.int x2)]) (st' := [.int 3, .int v10]) (fun _ => rfl) ?_
            refine pE_br (¬ v10 = 3) rfl rfl (fun c16 => ?_) (fun c16 => ?_)
            · rw [if_neg c16] at h
              exact f_M_isUndone_61 sp d N rec2 x0 x1 x2 S5 hrec2 _ h
            · have c16 := Decidable.not_not.mp c16
              rw [if_pos c16] at h
              refine pE_jump 1 (pc' := 42) (ls' := [some (.ref x0), some (.int x1), some (.int x2)]) (st' := [.ref x0]) (fun _ => rfl) ?_
              obtain ⟨oq11, hq11, h⟩ := obind h
              cases oq11 with
              | none => cases h
              | some q11 =>
                try dsimp only at h
                refine pE_gfS rfl rfl hq11 ?_
                refine pE_jump 2 (pc' := 48) (ls' := [some (.ref x0), some (.int x1), some (.int x2)]) (st' := [.ref x0, .int 10, .ref q11]) (fun _ => rfl) ?_
                obtain ⟨v13, hv13, h⟩ := obind h
                refine pE_gfI rfl rfl hv13 ?_
                refine pE_jump 3 (pc' := 54) (ls' := [some (.ref x0), some (.int x1), some (.int x2)]) (st' := [.int ((10 * v13) + x2), .ref q11]) (fun _ => rfl) ?_
                obtain ⟨v14, hv14, h⟩ := obind h
                refine pE_aI rfl rfl hv14 ?_
                refine pE_jump 1 (pc' := 56) (ls' := [some (.ref x0), some (.int x1), some (.int x2)]) (st' := [.int x1, .int v14]) (fun _ => rfl) ?_
                refine pE_br (¬ v14 = x1) rfl rfl (fun c15 => ?_) (fun c15 => ?_)
                · rw [if_neg c15] at h
                  exact f_M_isUndone_61 sp d N rec2 x0 x1 x2 S5 hrec2 _ h
                · have c15 := Decidable.not_not.mp c15
                  rw [if_pos c15] at h
                  refine pE_weak [none, none, none] trivial ?_
                  exact f_M_isUndone_59 sp d N S5 _ h
def F_M_isUndone (N : Nat) (S : pm_S) (a : Nat) (p0 : Int32) : Option (Int32 × pm_S) :=
    if rcv S a 11 = true then
    (F_M_isUndone_2 N a p0 N 0 S)
    else none
theorem g_M_isUndone {N : Nat} {S : pm_S} {a : Nat} {p0 : Int32} {r : (Int32 × pm_S)} (h : F_M_isUndone N S a p0 = some r) : rcv S a 11 = true := by
  unfold F_M_isUndone at h
  by_cases c : rcv S a 11 = true
  · exact c
  · rw [if_neg c] at h; cases h
set_option maxHeartbeats 4000000 in
set_option maxRecDepth 20000 in
theorem f_M_isUndone (sp : pm_I → List Value → pm_S → pm_O → Prop) (d N : Nat) (S : pm_S) (a : Nat) (p0 : Int32) (r : (Int32 × pm_S)) (h : F_M_isUndone N S a p0 = some r) : pm_rel pG sp (d + 2) mi_M_isUndone [.ref a, .int p0] S (some (.int r.1), r.2) := by
  have hg := g_M_isUndone h
  unfold F_M_isUndone at h
  rw [if_pos hg] at h
  refine pE_rel (d := d + 1) ?_
  show pmE pG _ mi_M_isUndone 0 [some (.ref a), some (.int p0), none] [] S _
  refine pE_jump 2 (pc' := 2) (ls' := [some (.ref a), some (.int p0), some (.int 0)]) (st' := []) (fun _ => rfl) ?_
  exact f_M_isUndone_2 sp d N a p0 N 0 S _ h
def F_M_unhang_31 (N : Nat)   (S : pm_S) : Option pm_S :=
    some S
set_option maxHeartbeats 4000000 in
set_option maxRecDepth 20000 in
theorem f_M_unhang_31 (sp : pm_I → List Value → pm_S → pm_O → Prop) (d N : Nat)   (S : pm_S)  (r : pm_S) (h : F_M_unhang_31 N   S = some r) : pmE pG (pm_rel pG sp (d + 0)) mi_M_unhang 31 [none, none, none] [] S (none, r) := by
  unfold F_M_unhang_31 at h
  cases h
  exact pE_ret rfl rfl rfl
def F_M_unhang_25 (N : Nat) (rec2 : Int32 → pm_S → Option pm_S) (x0 : Nat) (x1 : Int32) (x2 : Int32) (S : pm_S) : Option pm_S :=
    rec2 (x2 + 1) S
set_option maxHeartbeats 4000000 in
set_option maxRecDepth 20000 in
theorem f_M_unhang_25 (sp : pm_I → List Value → pm_S → pm_O → Prop) (d N : Nat) (rec2 : Int32 → pm_S → Option pm_S) (x0 : Nat) (x1 : Int32) (x2 : Int32) (S : pm_S) (hrec2 : ∀ (y1 : Int32) (U : pm_S) (r : pm_S), rec2 y1 U = some r → pmE pG (pm_rel pG sp (d + 0)) mi_M_unhang 2 [some (.ref x0), some (.int x1), some (.int y1)] [] U (none, r)) (r : pm_S) (h : F_M_unhang_25 N rec2 x0 x1 x2 S = some r) : pmE pG (pm_rel pG sp (d + 0)) mi_M_unhang 25 [some (.ref x0), some (.int x1), some (.int x2)] [] S (none, r) := by
  unfold F_M_unhang_25 at h
  refine pE_jump 2 (pc' := 2) (ls' := [some (.ref x0), some (.int x1), some (.int (x2 + 1))]) (st' := []) (fun _ => rfl) ?_
  exact hrec2 (x2 + 1) S _ h
def B_M_unhang_2 (N : Nat)  (rec2 : Int32 → pm_S → Option pm_S) (x0 : Nat) (x1 : Int32) (x2 : Int32) (S : pm_S) : Option pm_S :=
    if 42 ≤ x2 then
    F_M_unhang_31 N S
    else
    ((oR S x0 11 27).bind fun oq1 => match oq1 with
    | none => none
    | some q1 =>
    (aI [0, 6] S q1 x2).bind fun v2 =>
    if v2 = x1 then
    ((oR S x0 11 27).bind fun oq3 => match oq3 with
    | none => none
    | some q3 =>
    (sI [0] S q3 x2 (-1)).bind fun S4 =>
    F_M_unhang_25 N rec2 x0 x1 x2 S4)
    else
    F_M_unhang_25 N rec2 x0 x1 x2 S)
def F_M_unhang_2 (N : Nat)  (x0 : Nat) (x1 : Int32) : Nat → Int32 → pm_S → Option pm_S
  | 0 => fun _ _ => none
  | n + 1 => fun x2 S => B_M_unhang_2 N  (F_M_unhang_2 N  x0 x1 n) x0 x1 x2 S
set_option maxHeartbeats 4000000 in
set_option maxRecDepth 20000 in
theorem f_M_unhang_2 (sp : pm_I → List Value → pm_S → pm_O → Prop) (d N : Nat)  (x0 : Nat) (x1 : Int32)  : ∀ (n : Nat) (x2 : Int32) (S : pm_S) (r : pm_S), F_M_unhang_2 N  x0 x1 n x2 S = some r → pmE pG (pm_rel pG sp (d + 0)) mi_M_unhang 2 [some (.ref x0), some (.int x1), some (.int x2)] [] S (none, r) := by
  intro n
  induction n with
  | zero =>
    intro x2 S r h
    cases h
  | succ n ih =>
    intro x2 S r h
    replace h : B_M_unhang_2 N  (F_M_unhang_2 N  x0 x1 n) x0 x1 x2 S = some r := h
    have hrec2 := ih
    generalize F_M_unhang_2 N  x0 x1 n = rec2 at h hrec2
    unfold B_M_unhang_2 at h
    refine pE_jump 2 (pc' := 5) (ls' := [some (.ref x0), some (.int x1), some (.int x2)]) (st' := [.int 42, .int x2]) (fun _ => rfl) ?_
    refine pE_br (42 ≤ x2) rfl rfl (fun c6 => ?_) (fun c6 => ?_)
    · rw [if_pos c6] at h
      refine pE_weak [none, none, none] trivial ?_
      exact f_M_unhang_31 sp d N S _ h
    · rw [if_neg c6] at h
      refine pE_jump 1 (pc' := 9) (ls' := [some (.ref x0), some (.int x1), some (.int x2)]) (st' := [.ref x0]) (fun _ => rfl) ?_
      obtain ⟨oq1, hq1, h⟩ := obind h
      cases oq1 with
      | none => cases h
      | some q1 =>
        try dsimp only at h
        refine pE_gfS rfl rfl hq1 ?_
        refine pE_jump 1 (pc' := 13) (ls' := [some (.ref x0), some (.int x1), some (.int x2)]) (st' := [.int x2, .ref q1]) (fun _ => rfl) ?_
        obtain ⟨v2, hv2, h⟩ := obind h
        refine pE_aI rfl rfl hv2 ?_
        refine pE_jump 1 (pc' := 15) (ls' := [some (.ref x0), some (.int x1), some (.int x2)]) (st' := [.int x1, .int v2]) (fun _ => rfl) ?_
        refine pE_br (¬ v2 = x1) rfl rfl (fun c5 => ?_) (fun c5 => ?_)
        · rw [if_neg c5] at h
          exact f_M_unhang_25 sp d N rec2 x0 x1 x2 S hrec2 _ h
        · have c5 := Decidable.not_not.mp c5
          rw [if_pos c5] at h
          refine pE_jump 1 (pc' := 19) (ls' := [some (.ref x0), some (.int x1), some (.int x2)]) (st' := [.ref x0]) (fun _ => rfl) ?_
          obtain ⟨oq3, hq3, h⟩ := obind h
          cases oq3 with
          | none => cases h
          | some q3 =>
            try dsimp only at h
            refine pE_gfS rfl rfl hq3 ?_
            refine pE_jump 2 (pc' := 24) (ls' := [some (.ref x0), some (.int x1), some (.int x2)]) (st' := [.int (-1), .int x2, .ref q3]) (fun _ => rfl) ?_
            obtain ⟨S4, hS4, h⟩ := obind h
            refine pE_sI rfl rfl hS4 ?_
            exact f_M_unhang_25 sp d N rec2 x0 x1 x2 S4 hrec2 _ h
def F_M_unhang (N : Nat) (S : pm_S) (a : Nat) (p0 : Int32) : Option pm_S :=
    if rcv S a 11 = true then
    (F_M_unhang_2 N a p0 N 0 S)
    else none
theorem g_M_unhang {N : Nat} {S : pm_S} {a : Nat} {p0 : Int32} {r : pm_S} (h : F_M_unhang N S a p0 = some r) : rcv S a 11 = true := by
  unfold F_M_unhang at h
  by_cases c : rcv S a 11 = true
  · exact c
  · rw [if_neg c] at h; cases h
set_option maxHeartbeats 4000000 in
set_option maxRecDepth 20000 in
theorem f_M_unhang (sp : pm_I → List Value → pm_S → pm_O → Prop) (d N : Nat) (S : pm_S) (a : Nat) (p0 : Int32) (r : pm_S) (h : F_M_unhang N S a p0 = some r) : pm_rel pG sp (d + 1) mi_M_unhang [.ref a, .int p0] S (none, r) := by
  have hg := g_M_unhang h
  unfold F_M_unhang at h
  rw [if_pos hg] at h
  refine pE_rel (d := d + 0) ?_
  show pmE pG _ mi_M_unhang 0 [some (.ref a), some (.int p0), none] [] S _
  refine pE_jump 2 (pc' := 2) (ls' := [some (.ref a), some (.int p0), some (.int 0)]) (st' := []) (fun _ => rfl) ?_
  exact f_M_unhang_2 sp d N a p0 N 0 S _ h
def F_M_unjoin_31 (N : Nat)   (S : pm_S) : Option pm_S :=
    some S
set_option maxHeartbeats 4000000 in
set_option maxRecDepth 20000 in
theorem f_M_unjoin_31 (sp : pm_I → List Value → pm_S → pm_O → Prop) (d N : Nat)   (S : pm_S)  (r : pm_S) (h : F_M_unjoin_31 N   S = some r) : pmE pG (pm_rel pG sp (d + 0)) mi_M_unjoin 31 [none, none, none] [] S (none, r) := by
  unfold F_M_unjoin_31 at h
  cases h
  exact pE_ret rfl rfl rfl
def F_M_unjoin_25 (N : Nat) (rec2 : Int32 → pm_S → Option pm_S) (x0 : Nat) (x1 : Int32) (x2 : Int32) (S : pm_S) : Option pm_S :=
    rec2 (x2 + 1) S
set_option maxHeartbeats 4000000 in
set_option maxRecDepth 20000 in
theorem f_M_unjoin_25 (sp : pm_I → List Value → pm_S → pm_O → Prop) (d N : Nat) (rec2 : Int32 → pm_S → Option pm_S) (x0 : Nat) (x1 : Int32) (x2 : Int32) (S : pm_S) (hrec2 : ∀ (y1 : Int32) (U : pm_S) (r : pm_S), rec2 y1 U = some r → pmE pG (pm_rel pG sp (d + 0)) mi_M_unjoin 2 [some (.ref x0), some (.int x1), some (.int y1)] [] U (none, r)) (r : pm_S) (h : F_M_unjoin_25 N rec2 x0 x1 x2 S = some r) : pmE pG (pm_rel pG sp (d + 0)) mi_M_unjoin 25 [some (.ref x0), some (.int x1), some (.int x2)] [] S (none, r) := by
  unfold F_M_unjoin_25 at h
  refine pE_jump 2 (pc' := 2) (ls' := [some (.ref x0), some (.int x1), some (.int (x2 + 1))]) (st' := []) (fun _ => rfl) ?_
  exact hrec2 (x2 + 1) S _ h
def B_M_unjoin_2 (N : Nat)  (rec2 : Int32 → pm_S → Option pm_S) (x0 : Nat) (x1 : Int32) (x2 : Int32) (S : pm_S) : Option pm_S :=
    if 42 ≤ x2 then
    F_M_unjoin_31 N S
    else
    ((oR S x0 11 26).bind fun oq1 => match oq1 with
    | none => none
    | some q1 =>
    (aI [0, 6] S q1 x2).bind fun v2 =>
    if v2 = x1 then
    ((oR S x0 11 26).bind fun oq3 => match oq3 with
    | none => none
    | some q3 =>
    (sI [0] S q3 x2 (-1)).bind fun S4 =>
    F_M_unjoin_25 N rec2 x0 x1 x2 S4)
    else
    F_M_unjoin_25 N rec2 x0 x1 x2 S)
def F_M_unjoin_2 (N : Nat)  (x0 : Nat) (x1 : Int32) : Nat → Int32 → pm_S → Option pm_S
  | 0 => fun _ _ => none
  | n + 1 => fun x2 S => B_M_unjoin_2 N  (F_M_unjoin_2 N  x0 x1 n) x0 x1 x2 S
set_option maxHeartbeats 4000000 in
set_option maxRecDepth 20000 in
theorem f_M_unjoin_2 (sp : pm_I → List Value → pm_S → pm_O → Prop) (d N : Nat)  (x0 : Nat) (x1 : Int32)  : ∀ (n : Nat) (x2 : Int32) (S : pm_S) (r : pm_S), F_M_unjoin_2 N  x0 x1 n x2 S = some r → pmE pG (pm_rel pG sp (d + 0)) mi_M_unjoin 2 [some (.ref x0), some (.int x1), some (.int x2)] [] S (none, r) := by
  intro n
  induction n with
  | zero =>
    intro x2 S r h
    cases h
  | succ n ih =>
    intro x2 S r h
    replace h : B_M_unjoin_2 N  (F_M_unjoin_2 N  x0 x1 n) x0 x1 x2 S = some r := h
    have hrec2 := ih
    generalize F_M_unjoin_2 N  x0 x1 n = rec2 at h hrec2
    unfold B_M_unjoin_2 at h
    refine pE_jump 2 (pc' := 5) (ls' := [some (.ref x0), some (.int x1), some (.int x2)]) (st' := [.int 42, .int x2]) (fun _ => rfl) ?_
    refine pE_br (42 ≤ x2) rfl rfl (fun c6 => ?_) (fun c6 => ?_)
    · rw [if_pos c6] at h
      refine pE_weak [none, none, none] trivial ?_
      exact f_M_unjoin_31 sp d N S _ h
    · rw [if_neg c6] at h
      refine pE_jump 1 (pc' := 9) (ls' := [some (.ref x0), some (.int x1), some (.int x2)]) (st' := [.ref x0]) (fun _ => rfl) ?_
      obtain ⟨oq1, hq1, h⟩ := obind h
      cases oq1 with
      | none => cases h
      | some q1 =>
        try dsimp only at h
        refine pE_gfS rfl rfl hq1 ?_
        refine pE_jump 1 (pc' := 13) (ls' := [some (.ref x0), some (.int x1), some (.int x2)]) (st' := [.int x2, .ref q1]) (fun _ => rfl) ?_
        obtain ⟨v2, hv2, h⟩ := obind h
        refine pE_aI rfl rfl hv2 ?_
        refine pE_jump 1 (pc' := 15) (ls' := [some (.ref x0), some (.int x1), some (.int x2)]) (st' := [.int x1, .int v2]) (fun _ => rfl) ?_
        refine pE_br (¬ v2 = x1) rfl rfl (fun c5 => ?_) (fun c5 => ?_)
        · rw [if_neg c5] at h
          exact f_M_unjoin_25 sp d N rec2 x0 x1 x2 S hrec2 _ h
        · have c5 := Decidable.not_not.mp c5
          rw [if_pos c5] at h
          refine pE_jump 1 (pc' := 19) (ls' := [some (.ref x0), some (.int x1), some (.int x2)]) (st' := [.ref x0]) (fun _ => rfl) ?_
          obtain ⟨oq3, hq3, h⟩ := obind h
          cases oq3 with
          | none => cases h
          | some q3 =>
            try dsimp only at h
            refine pE_gfS rfl rfl hq3 ?_
            refine pE_jump 2 (pc' := 24) (ls' := [some (.ref x0), some (.int x1), some (.int x2)]) (st' := [.int (-1), .int x2, .ref q3]) (fun _ => rfl) ?_
            obtain ⟨S4, hS4, h⟩ := obind h
            refine pE_sI rfl rfl hS4 ?_
            exact f_M_unjoin_25 sp d N rec2 x0 x1 x2 S4 hrec2 _ h
def F_M_unjoin (N : Nat) (S : pm_S) (a : Nat) (p0 : Int32) : Option pm_S :=
    if rcv S a 11 = true then
    (F_M_unjoin_2 N a p0 N 0 S)
    else none
theorem g_M_unjoin {N : Nat} {S : pm_S} {a : Nat} {p0 : Int32} {r : pm_S} (h : F_M_unjoin N S a p0 = some r) : rcv S a 11 = true := by
  unfold F_M_unjoin at h
  by_cases c : rcv S a 11 = true
  · exact c
  · rw [if_neg c] at h; cases h
set_option maxHeartbeats 4000000 in
set_option maxRecDepth 20000 in
theorem f_M_unjoin (sp : pm_I → List Value → pm_S → pm_O → Prop) (d N : Nat) (S : pm_S) (a : Nat) (p0 : Int32) (r : pm_S) (h : F_M_unjoin N S a p0 = some r) : pm_rel pG sp (d + 1) mi_M_unjoin [.ref a, .int p0] S (none, r) := by
  have hg := g_M_unjoin h
  unfold F_M_unjoin at h
  rw [if_pos hg] at h
  refine pE_rel (d := d + 0) ?_
  show pmE pG _ mi_M_unjoin 0 [some (.ref a), some (.int p0), none] [] S _
  refine pE_jump 2 (pc' := 2) (ls' := [some (.ref a), some (.int p0), some (.int 0)]) (st' := []) (fun _ => rfl) ?_
  exact f_M_unjoin_2 sp d N a p0 N 0 S _ h
def F_M_lay_374 (N : Nat)   (S : pm_S) : Option pm_S :=
    some S
set_option maxHeartbeats 4000000 in
set_option maxRecDepth 20000 in
theorem f_M_lay_374 (sp : pm_I → List Value → pm_S → pm_O → Prop) (d N : Nat)   (S : pm_S)  (r : pm_S) (h : F_M_lay_374 N   S = some r) : pmE pG (pm_rel pG sp (d + 2)) mi_M_lay 374 [none, none, none, none, none, none, none, none, none] [] S (none, r) := by
  unfold F_M_lay_374 at h
  cases h
  exact pE_ret rfl rfl rfl
def F_M_lay_368 (N : Nat) (rec227 : Int32 → pm_S → Option pm_S) (x0 : Nat) (x1 : Int32) (x5 : Int32) (S : pm_S) : Option pm_S :=
    rec227 (x5 + 1) S
set_option maxHeartbeats 4000000 in
set_option maxRecDepth 20000 in
theorem f_M_lay_368 (sp : pm_I → List Value → pm_S → pm_O → Prop) (d N : Nat) (rec227 : Int32 → pm_S → Option pm_S) (x0 : Nat) (x1 : Int32) (x5 : Int32) (S : pm_S) (hrec227 : ∀ (y1 : Int32) (U : pm_S) (r : pm_S), rec227 y1 U = some r → pmE pG (pm_rel pG sp (d + 2)) mi_M_lay 227 [some (.ref x0), some (.int x1), none, none, none, some (.int y1), none, none, none] [] U (none, r)) (r : pm_S) (h : F_M_lay_368 N rec227 x0 x1 x5 S = some r) : pmE pG (pm_rel pG sp (d + 2)) mi_M_lay 368 [some (.ref x0), some (.int x1), none, none, none, some (.int x5), none, none, none] [] S (none, r) := by
  unfold F_M_lay_368 at h
  refine pE_jump 2 (pc' := 227) (ls' := [some (.ref x0), some (.int x1), none, none, none, some (.int (x5 + 1)), none, none, none]) (st' := []) (fun _ => rfl) ?_
  exact hrec227 (x5 + 1) S _ h
def F_M_lay_361_2 (N : Nat) (rec227 : Int32 → pm_S → Option pm_S) (rec272 : Int32 → pm_S → Option pm_S) (x0 : Nat) (x1 : Int32) (x5 : Int32) (x6 : Int32) (x7 : Int32) (t0 : Int32) (t1 : Int32) (t2 : Nat) (S : pm_S) : Option pm_S :=
    (sI [0] S t2 t1 t0).bind fun S40 =>
    rec272 (x7 + 1) S40
set_option maxHeartbeats 4000000 in
set_option maxRecDepth 20000 in
theorem f_M_lay_361_2 (sp : pm_I → List Value → pm_S → pm_O → Prop) (d N : Nat) (rec227 : Int32 → pm_S → Option pm_S) (rec272 : Int32 → pm_S → Option pm_S) (x0 : Nat) (x1 : Int32) (x5 : Int32) (x6 : Int32) (x7 : Int32) (t0 : Int32) (t1 : Int32) (t2 : Nat) (S : pm_S) (hrec227 : ∀ (y1 : Int32) (U : pm_S) (r : pm_S), rec227 y1 U = some r → pmE pG (pm_rel pG sp (d + 2)) mi_M_lay 227 [some (.ref x0), some (.int x1), none, none, none, some (.int y1), none, none, none] [] U (none, r)) (hrec272 : ∀ (y1 : Int32) (U : pm_S) (r : pm_S), rec272 y1 U = some r → pmE pG (pm_rel pG sp (d + 2)) mi_M_lay 272 [some (.ref x0), some (.int x1), none, none, none, some (.int x5), some (.int x6), some (.int y1), none] [] U (none, r)) (r : pm_S) (h : F_M_lay_361_2 N rec227 rec272 x0 x1 x5 x6 x7 t0 t1 t2 S = some r) : pmE pG (pm_rel pG sp (d + 2)) mi_M_lay 361 [some (.ref x0), some (.int x1), none, none, none, some (.int x5), some (.int x6), some (.int x7), none] [.int t0, .int t1, .ref t2] S (none, r) := by
  unfold F_M_lay_361_2 at h
  obtain ⟨S40, hS40, h⟩ := obind h
  refine pE_sI rfl rfl hS40 ?_
  refine pE_jump 2 (pc' := 272) (ls' := [some (.ref x0), some (.int x1), none, none, none, some (.int x5), some (.int x6), some (.int (x7 + 1)), none]) (st' := []) (fun _ => rfl) ?_
  exact hrec272 (x7 + 1) S40 _ h
def B_M_lay_272 (N : Nat) (rec227 : Int32 → pm_S → Option pm_S) (rec272 : Int32 → pm_S → Option pm_S) (x0 : Nat) (x1 : Int32) (x5 : Int32) (x6 : Int32) (x7 : Int32) (S : pm_S) : Option pm_S :=
    if 6 ≤ x7 then
    F_M_lay_368 N rec227 x0 x1 x5 S
    else
    ((oR S x0 11 22).bind fun oq17 => match oq17 with
    | none => none
    | some q17 =>
    (aI [0, 6] S q17 x6).bind fun v18 =>
    (oR S x0 11 28).bind fun oq19 => match oq19 with
    | none => none
    | some q19 =>
    (oR S x0 11 28).bind fun oq34 => match oq34 with
    | none => none
    | some q34 =>
    (aI [0, 6] S q34 ((6 * v18) + x7)).bind fun v35 =>
    (oR S x0 11 23).bind fun oq36 => match oq36 with
    | none => none
    | some q36 =>
    (aI [0, 6] S q36 x6).bind fun v37 =>
    if v35 = v37 then
    ((oR S x0 11 24).bind fun oq38 => match oq38 with
    | none => none
    | some q38 =>
    (aI [0, 6] S q38 x6).bind fun v39 =>
    F_M_lay_361_2 N rec227 rec272 x0 x1 x5 x6 x7 v39 ((6 * v18) + x7) q19 S)
    else
    ((oR S x0 11 28).bind fun oq41 => match oq41 with
    | none => none
    | some q41 =>
    (aI [0, 6] S q41 ((6 * v18) + x7)).bind fun v42 =>
    (oR S x0 11 24).bind fun oq43 => match oq43 with
    | none => none
    | some q43 =>
    (aI [0, 6] S q43 x6).bind fun v44 =>
    if v42 = v44 then
    ((oR S x0 11 23).bind fun oq45 => match oq45 with
    | none => none
    | some q45 =>
    (aI [0, 6] S q45 x6).bind fun v46 =>
    F_M_lay_361_2 N rec227 rec272 x0 x1 x5 x6 x7 v46 ((6 * v18) + x7) q19 S)
    else
    ((oR S x0 11 28).bind fun oq47 => match oq47 with
    | none => none
    | some q47 =>
    (aI [0, 6] S q47 ((6 * v18) + x7)).bind fun v48 =>
    F_M_lay_361_2 N rec227 rec272 x0 x1 x5 x6 x7 v48 ((6 * v18) + x7) q19 S)))
def F_M_lay_272 (N : Nat) (rec227 : Int32 → pm_S → Option pm_S) (x0 : Nat) (x1 : Int32) (x5 : Int32) (x6 : Int32) : Nat → Int32 → pm_S → Option pm_S
  | 0 => fun _ _ => none
  | n + 1 => fun x7 S => B_M_lay_272 N rec227 (F_M_lay_272 N rec227 x0 x1 x5 x6 n) x0 x1 x5 x6 x7 S
set_option maxHeartbeats 4000000 in
set_option maxRecDepth 20000 in
theorem f_M_lay_272 (sp : pm_I → List Value → pm_S → pm_O → Prop) (d N : Nat) (rec227 : Int32 → pm_S → Option pm_S) (x0 : Nat) (x1 : Int32) (x5 : Int32) (x6 : Int32) (hrec227 : ∀ (y1 : Int32) (U : pm_S) (r : pm_S), rec227 y1 U = some r → pmE pG (pm_rel pG sp (d + 2)) mi_M_lay 227 [some (.ref x0), some (.int x1), none, none, none, some (.int y1), none, none, none] [] U (none, r)) : ∀ (n : Nat) (x7 : Int32) (S : pm_S) (r : pm_S), F_M_lay_272 N rec227 x0 x1 x5 x6 n x7 S = some r → pmE pG (pm_rel pG sp (d + 2)) mi_M_lay 272 [some (.ref x0), some (.int x1), none, none, none, some (.int x5), some (.int x6), some (.int x7), none] [] S (none, r) := by
  intro n
  induction n with
  | zero =>
    intro x7 S r h
    cases h
  | succ n ih =>
    intro x7 S r h
    replace h : B_M_lay_272 N rec227 (F_M_lay_272 N rec227 x0 x1 x5 x6 n) x0 x1 x5 x6 x7 S = some r := h
    have hrec272 := ih
    generalize F_M_lay_272 N rec227 x0 x1 x5 x6 n = rec272 at h hrec272
    unfold B_M_lay_272 at h
    refine pE_jump 2 (pc' := 276) (ls' := [some (.ref x0), some (.int x1), none, none, none, some (.int x5), some (.int x6), some (.int x7), none]) (st' := [.int 6, .int x7]) (fun _ => rfl) ?_
    refine pE_br (6 ≤ x7) rfl rfl (fun c51 => ?_) (fun c51 => ?_)
    · rw [if_pos c51] at h
      refine pE_weak [some (.ref x0), some (.int x1), none, none, none, some (.int x5), none, none, none] ⟨rfl, ⟨rfl, ⟨rfl, trivial⟩⟩⟩ ?_
      exact f_M_lay_368 sp d N rec227 x0 x1 x5 S hrec227 _ h
    · rw [if_neg c51] at h
      refine pE_jump 2 (pc' := 282) (ls' := [some (.ref x0), some (.int x1), none, none, none, some (.int x5), some (.int x6), some (.int x7), none]) (st' := [.ref x0, .int 6]) (fun _ => rfl) ?_
      obtain ⟨oq17, hq17, h⟩ := obind h
      cases oq17 with
      | none => cases h
      | some q17 =>
        try dsimp only at h
        refine pE_gfS rfl rfl hq17 ?_
        refine pE_jump 1 (pc' := 287) (ls' := [some (.ref x0), some (.int x1), none, none, none, some (.int x5), some (.int x6), some (.int x7), none]) (st' := [.int x6, .ref q17, .int 6]) (fun _ => rfl) ?_
        obtain ⟨v18, hv18, h⟩ := obind h
        refine pE_aI rfl rfl hv18 ?_
        refine pE_jump 5 (pc' := 295) (ls' := [some (.ref x0), some (.int x1), none, none, none, some (.int x5), some (.int x6), some (.int x7), some (.int ((6 * v18) + x7))]) (st' := [.ref x0]) (fun _ => rfl) ?_
        obtain ⟨oq19, hq19, h⟩ := obind h
        cases oq19 with
        | none => cases h
        | some q19 =>
          try dsimp only at h
          refine pE_gfS rfl rfl hq19 ?_
          refine pE_jump 2 (pc' := 301) (ls' := [some (.ref x0), some (.int x1), none, none, none, some (.int x5), some (.int x6), some (.int x7), some (.int ((6 * v18) + x7))]) (st' := [.ref x0, .int ((6 * v18) + x7), .ref q19]) (fun _ => rfl) ?_
          obtain ⟨oq34, hq34, h⟩ := obind h
          cases oq34 with
          | none => cases h
          | some q34 =>
            try dsimp only at h
            refine pE_gfS rfl rfl hq34 ?_
            refine pE_jump 1 (pc' := 306) (ls' := [some (.ref x0), some (.int x1), none, none, none, some (.int x5), some (.int x6), some (.int x7), some (.int ((6 * v18) + x7))]) (st' := [.int ((6 * v18) + x7), .ref q34, .int ((6 * v18) + x7), .ref q19]) (fun _ => rfl) ?_
            obtain ⟨v35, hv35, h⟩ := obind h
            refine pE_aI rfl rfl hv35 ?_
            refine pE_jump 1 (pc' := 308) (ls' := [some (.ref x0), some (.int x1), none, none, none, some (.int x5), some (.int x6), some (.int x7), some (.int ((6 * v18) + x7))]) (st' := [.ref x0, .int v35, .int ((6 * v18) + x7), .ref q19]) (fun _ => rfl) ?_
            obtain ⟨oq36, hq36, h⟩ := obind h
            cases oq36 with
            | none => cases h
            | some q36 =>
              try dsimp only at h
              refine pE_gfS rfl rfl hq36 ?_
              refine pE_jump 1 (pc' := 313) (ls' := [some (.ref x0), some (.int x1), none, none, none, some (.int x5), some (.int x6), some (.int x7), some (.int ((6 * v18) + x7))]) (st' := [.int x6, .ref q36, .int v35, .int ((6 * v18) + x7), .ref q19]) (fun _ => rfl) ?_
              obtain ⟨v37, hv37, h⟩ := obind h
              refine pE_aI rfl rfl hv37 ?_
              refine pE_br (¬ v35 = v37) rfl rfl (fun c50 => ?_) (fun c50 => ?_)
              · rw [if_neg c50] at h
                refine pE_jump 1 (pc' := 328) (ls' := [some (.ref x0), some (.int x1), none, none, none, some (.int x5), some (.int x6), some (.int x7), some (.int ((6 * v18) + x7))]) (st' := [.ref x0, .int ((6 * v18) + x7), .ref q19]) (fun _ => rfl) ?_
                obtain ⟨oq41, hq41, h⟩ := obind h
                cases oq41 with
                | none => cases h
                | some q41 =>
                  try dsimp only at h
                  refine pE_gfS rfl rfl hq41 ?_
                  refine pE_jump 1 (pc' := 333) (ls' := [some (.ref x0), some (.int x1), none, none, none, some (.int x5), some (.int x6), some (.int x7), some (.int ((6 * v18) + x7))]) (st' := [.int ((6 * v18) + x7), .ref q41, .int ((6 * v18) + x7), .ref q19]) (fun _ => rfl) ?_
                  obtain ⟨v42, hv42, h⟩ := obind h
                  refine pE_aI rfl rfl hv42 ?_
                  refine pE_jump 1 (pc' := 335) (ls' := [some (.ref x0), some (.int x1), none, none, none, some (.int x5), some (.int x6), some (.int x7), some (.int ((6 * v18) + x7))]) (st' := [.ref x0, .int v42, .int ((6 * v18) + x7), .ref q19]) (fun _ => rfl) ?_
                  obtain ⟨oq43, hq43, h⟩ := obind h
                  cases oq43 with
                  | none => cases h
                  | some q43 =>
                    try dsimp only at h
                    refine pE_gfS rfl rfl hq43 ?_
                    refine pE_jump 1 (pc' := 340) (ls' := [some (.ref x0), some (.int x1), none, none, none, some (.int x5), some (.int x6), some (.int x7), some (.int ((6 * v18) + x7))]) (st' := [.int x6, .ref q43, .int v42, .int ((6 * v18) + x7), .ref q19]) (fun _ => rfl) ?_
                    obtain ⟨v44, hv44, h⟩ := obind h
                    refine pE_aI rfl rfl hv44 ?_
                    refine pE_br (¬ v42 = v44) rfl rfl (fun c49 => ?_) (fun c49 => ?_)
                    · rw [if_neg c49] at h
                      refine pE_jump 1 (pc' := 355) (ls' := [some (.ref x0), some (.int x1), none, none, none, some (.int x5), some (.int x6), some (.int x7), some (.int ((6 * v18) + x7))]) (st' := [.ref x0, .int ((6 * v18) + x7), .ref q19]) (fun _ => rfl) ?_
                      obtain ⟨oq47, hq47, h⟩ := obind h
                      cases oq47 with
                      | none => cases h
                      | some q47 =>
                        try dsimp only at h
                        refine pE_gfS rfl rfl hq47 ?_
                        refine pE_jump 1 (pc' := 360) (ls' := [some (.ref x0), some (.int x1), none, none, none, some (.int x5), some (.int x6), some (.int x7), some (.int ((6 * v18) + x7))]) (st' := [.int ((6 * v18) + x7), .ref q47, .int ((6 * v18) + x7), .ref q19]) (fun _ => rfl) ?_
                        obtain ⟨v48, hv48, h⟩ := obind h
                        refine pE_aI rfl rfl hv48 ?_
                        refine pE_weak [some (.ref x0), some (.int x1), none, none, none, some (.int x5), some (.int x6), some (.int x7), none] ⟨rfl, ⟨rfl, ⟨rfl, ⟨rfl, ⟨rfl, trivial⟩⟩⟩⟩⟩ ?_
                        exact f_M_lay_361_2 sp d N rec227 rec272 x0 x1 x5 x6 x7 v48 ((6 * v18) + x7) q19 S hrec227 hrec272 _ h
                    · have c49 := Decidable.not_not.mp c49
                      rw [if_pos c49] at h
                      refine pE_jump 1 (pc' := 345) (ls' := [some (.ref x0), some (.int x1), none, none, none, some (.int x5), some (.int x6), some (.int x7), some (.int ((6 * v18) + x7))]) (st' := [.ref x0, .int ((6 * v18) + x7), .ref q19]) (fun _ => rfl) ?_
                      obtain ⟨oq45, hq45, h⟩ := obind h
                      cases oq45 with
                      | none => cases h
                      | some q45 =>
                        try dsimp only at h
                        refine pE_gfS rfl rfl hq45 ?_
                        refine pE_jump 1 (pc' := 350) (ls' := [some (.ref x0), some (.int x1), none, none, none, some (.int x5), some (.int x6), some (.int x7), some (.int ((6 * v18) + x7))]) (st' := [.int x6, .ref q45, .int ((6 * v18) + x7), .ref q19]) (fun _ => rfl) ?_
                        obtain ⟨v46, hv46, h⟩ := obind h
                        refine pE_aI rfl rfl hv46 ?_
                        refine pE_jump 1 (pc' := 361) (ls' := [some (.ref x0), some (.int x1), none, none, none, some (.int x5), some (.int x6), some (.int x7), some (.int ((6 * v18) + x7))]) (st' := [.int v46, .int ((6 * v18) + x7), .ref q19]) (fun _ => rfl) ?_
                        refine pE_weak [some (.ref x0), some (.int x1), none, none, none, some (.int x5), some (.int x6), some (.int x7), none] ⟨rfl, ⟨rfl, ⟨rfl, ⟨rfl, ⟨rfl, trivial⟩⟩⟩⟩⟩ ?_
                        exact f_M_lay_361_2 sp d N rec227 rec272 x0 x1 x5 x6 x7 v46 ((6 * v18) + x7) q19 S hrec227 hrec272 _ h
              · have c50 := Decidable.not_not.mp c50
                rw [if_pos c50] at h
                refine pE_jump 1 (pc' := 318) (ls' := [some (.ref x0), some (.int x1), none, none, none, some (.int x5), some (.int x6), some (.int x7), some (.int ((6 * v18) + x7))]) (st' := [.ref x0, .int ((6 * v18) + x7), .ref q19]) (fun _ => rfl) ?_
                obtain ⟨oq38, hq38, h⟩ := obind h
                cases oq38 with
                | none => cases h
                | some q38 =>
                  try dsimp only at h
                  refine pE_gfS rfl rfl hq38 ?_
                  refine pE_jump 1 (pc' := 323) (ls' := [some (.ref x0), some (.int x1), none, none, none, some (.int x5), some (.int x6), some (.int x7), some (.int ((6 * v18) + x7))]) (st' := [.int x6, .ref q38, .int ((6 * v18) + x7), .ref q19]) (fun _ => rfl) ?_
                  obtain ⟨v39, hv39, h⟩ := obind h
                  refine pE_aI rfl rfl hv39 ?_
                  refine pE_jump 1 (pc' := 361) (ls' := [some (.ref x0), some (.int x1), none, none, none, some (.int x5), some (.int x6), some (.int x7), some (.int ((6 * v18) + x7))]) (st' := [.int v39, .int ((6 * v18) + x7), .ref q19]) (fun _ => rfl) ?_
                  refine pE_weak [some (.ref x0), some (.int x1), none, none, none, some (.int x5), some (.int x6), some (.int x7), none] ⟨rfl, ⟨rfl, ⟨rfl, ⟨rfl, ⟨rfl, trivial⟩⟩⟩⟩⟩ ?_
                  exact f_M_lay_361_2 sp d N rec227 rec272 x0 x1 x5 x6 x7 v39 ((6 * v18) + x7) q19 S hrec227 hrec272 _ h
def B_M_lay_227 (N : Nat)  (rec227 : Int32 → pm_S → Option pm_S) (x0 : Nat) (x1 : Int32) (x5 : Int32) (S : pm_S) : Option pm_S :=
    (oR S x0 11 20).bind fun oq11 => match oq11 with
    | none => none
    | some q11 =>
    (aI [0, 6] S q11 x1).bind fun v12 =>
    if v12 ≤ x5 then
    F_M_lay_374 N S
    else
    ((F_M_isSo N S x0 x5).bind fun (v14, S13) =>
    if v14 = 0 then
    F_M_lay_368 N rec227 x0 x1 x5 S13
    else
    ((oR S13 x0 11 21).bind fun oq15 => match oq15 with
    | none => none
    | some q15 =>
    (aI [0, 6] S13 q15 ((10 * x1) + x5)).bind fun v16 =>
    if v16 = 0 then
    F_M_lay_272 N rec227 x0 x1 x5 ((10 * x1) + x5) N 0 S13
    else
    F_M_lay_368 N rec227 x0 x1 x5 S13))
def F_M_lay_227 (N : Nat)  (x0 : Nat) (x1 : Int32) : Nat → Int32 → pm_S → Option pm_S
  | 0 => fun _ _ => none
  | n + 1 => fun x5 S => B_M_lay_227 N  (F_M_lay_227 N  x0 x1 n) x0 x1 x5 S
set_option maxHeartbeats 4000000 in
set_option maxRecDepth 20000 in
theorem f_M_lay_227 (sp : pm_I → List Value → pm_S → pm_O → Prop) (d N : Nat)  (x0 : Nat) (x1 : Int32)  : ∀ (n : Nat) (x5 : Int32) (S : pm_S) (r : pm_S), F_M_lay_227 N  x0 x1 n x5 S = some r → pmE pG (pm_rel pG sp (d + 2)) mi_M_lay 227 [some (.ref x0), some (.int x1), none, none, none, some (.int x5), none, none, none] [] S (none, r) := by
  intro n
  induction n with
  | zero =>
    intro x5 S r h
    cases h
  | succ n ih =>
    intro x5 S r h
    replace h : B_M_lay_227 N  (F_M_lay_227 N  x0 x1 n) x0 x1 x5 S = some r := h
    have hrec227 := ih
    generalize F_M_lay_227 N  x0 x1 n = rec227 at h hrec227
    unfold B_M_lay_227 at h
    refine pE_jump 2 (pc' := 230) (ls' := [some (.ref x0), some (.int x1), none, none, none, some (.int x5), none, none, none]) (st' := [.ref x0, .int x5]) (fun _ => rfl) ?_
    obtain ⟨oq11, hq11, h⟩ := obind h
    cases oq11 with
    | none => cases h
    | some q11 =>
      try dsimp only at h
      refine pE_gfS rfl rfl hq11 ?_
      refine pE_jump 1 (pc' := 234) (ls' := [some (.ref x0), some (.int x1), none, none, none, some (.int x5), none, none, none]) (st' := [.int x1, .ref q11, .int x5]) (fun _ => rfl) ?_
      obtain ⟨v12, hv12, h⟩ := obind h
      refine pE_aI rfl rfl hv12 ?_
      refine pE_br (v12 ≤ x5) rfl rfl (fun c54 => ?_) (fun c54 => ?_)
      · rw [if_pos c54] at h
        refine pE_weak [none, none, none, none, none, none, none, none, none] trivial ?_
        exact f_M_lay_374 sp d N S _ h
      · rw [if_neg c54] at h
        refine pE_jump 8 (pc' := 250) (ls' := [some (.ref x0), some (.int x1), none, none, none, some (.int x5), some (.int ((10 * x1) + x5)), none, none]) (st' := [.int x5, .ref x0]) (fun _ => rfl) ?_
        obtain ⟨⟨v14, S13⟩, hv14, h⟩ := obind h
        try dsimp only at h
        refine pE_iv (Bs := [.int x5]) (st := []) 1 rfl (Or.inl ⟨rfl, rfl⟩) rfl rfl (Nat.le_of_ble_eq_true rfl) (Nat.le_of_ble_eq_true rfl) (g_M_isSo hv14) (f_M_isSo sp (d + 1) N S x0 x5 _ hv14) ?_
        refine pE_br (v14 = 0) rfl rfl (fun c53 => ?_) (fun c53 => ?_)
        · rw [if_pos c53] at h
          refine pE_weak [some (.ref x0), some (.int x1), none, none, none, some (.int x5), none, none, none] ⟨rfl, ⟨rfl, ⟨rfl, trivial⟩⟩⟩ ?_
          exact f_M_lay_368 sp d N rec227 x0 x1 x5 S13 hrec227 _ h
        · rw [if_neg c53] at h
          refine pE_jump 1 (pc' := 257) (ls' := [some (.ref x0), some (.int x1), none, none, none, some (.int x5), some (.int ((10 * x1) + x5)), none, none]) (st' := [.ref x0]) (fun _ => rfl) ?_
          obtain ⟨oq15, hq15, h⟩ := obind h
          cases oq15 with
          | none => cases h
          | some q15 =>
            try dsimp only at h
            refine pE_gfS rfl rfl hq15 ?_
            refine pE_jump 1 (pc' := 262) (ls' := [some (.ref x0), some (.int x1), none, none, none, some (.int x5), some (.int ((10 * x1) + x5)), none, none]) (st' := [.int ((10 * x1) + x5), .ref q15]) (fun _ => rfl) ?_
            obtain ⟨v16, hv16, h⟩ := obind h
            refine pE_aI rfl rfl hv16 ?_
            refine pE_br (v16 = 0) rfl rfl (fun c52 => ?_) (fun c52 => ?_)
            · rw [if_pos c52] at h
              refine pE_jump 2 (pc' := 272) (ls' := [some (.ref x0), some (.int x1), none, none, none, some (.int x5), some (.int ((10 * x1) + x5)), some (.int 0), none]) (st' := []) (fun _ => rfl) ?_
              exact f_M_lay_272 sp d N rec227 x0 x1 x5 ((10 * x1) + x5) hrec227 N 0 S13 _ h
            · rw [if_neg c52] at h
              refine pE_jump 1 (pc' := 368) (ls' := [some (.ref x0), some (.int x1), none, none, none, some (.int x5), some (.int ((10 * x1) + x5)), none, none]) (st' := []) (fun _ => rfl) ?_
              refine pE_weak [some (.ref x0), some (.int x1), none, none, none, some (.int x5), none, none, none] ⟨rfl, ⟨rfl, ⟨rfl, trivial⟩⟩⟩ ?_
              exact f_M_lay_368 sp d N rec227 x0 x1 x5 S13 hrec227 _ h
def F_M_lay_224 (N : Nat)  (x0 : Nat) (x1 : Int32) (S : pm_S) : Option pm_S :=
    F_M_lay_227 N x0 x1 N 0 S
set_option maxHeartbeats 4000000 in
set_option maxRecDepth 20000 in
theorem f_M_lay_224 (sp : pm_I → List Value → pm_S → pm_O → Prop) (d N : Nat)  (x0 : Nat) (x1 : Int32) (S : pm_S)  (r : pm_S) (h : F_M_lay_224 N  x0 x1 S = some r) : pmE pG (pm_rel pG sp (d + 2)) mi_M_lay 224 [some (.ref x0), some (.int x1), none, none, none, none, none, none, none] [] S (none, r) := by
  unfold F_M_lay_224 at h
  refine pE_jump 2 (pc' := 227) (ls' := [some (.ref x0), some (.int x1), none, none, none, some (.int 0), none, none, none]) (st' := []) (fun _ => rfl) ?_
  exact f_M_lay_227 sp d N x0 x1 N 0 S _ h
def F_M_lay_218 (N : Nat) (rec82 : Int32 → pm_S → Option pm_S) (x0 : Nat) (x1 : Int32) (x4 : Int32) (x5 : Int32) (S : pm_S) : Option pm_S :=
    rec82 (x5 + 1) S
set_option maxHeartbeats 4000000 in
set_option maxRecDepth 20000 in
theorem f_M_lay_218 (sp : pm_I → List Value → pm_S → pm_O → Prop) (d N : Nat) (rec82 : Int32 → pm_S → Option pm_S) (x0 : Nat) (x1 : Int32) (x4 : Int32) (x5 : Int32) (S : pm_S) (hrec82 : ∀ (y1 : Int32) (U : pm_S) (r : pm_S), rec82 y1 U = some r → pmE pG (pm_rel pG sp (d + 2)) mi_M_lay 82 [some (.ref x0), some (.int x1), none, none, some (.int x4), some (.int y1), none, none, none] [] U (none, r)) (r : pm_S) (h : F_M_lay_218 N rec82 x0 x1 x4 x5 S = some r) : pmE pG (pm_rel pG sp (d + 2)) mi_M_lay 218 [some (.ref x0), some (.int x1), none, none, some (.int x4), some (.int x5), none, none, none] [] S (none, r) := by
  unfold F_M_lay_218 at h
  refine pE_jump 2 (pc' := 82) (ls' := [some (.ref x0), some (.int x1), none, none, some (.int x4), some (.int (x5 + 1)), none, none, none]) (st' := []) (fun _ => rfl) ?_
  exact hrec82 (x5 + 1) S _ h
def F_M_lay_115 (N : Nat) (rec82 : Int32 → pm_S → Option pm_S) (x0 : Nat) (x1 : Int32) (x4 : Int32) (x5 : Int32) (S : pm_S) : Option pm_S :=
    (oR S x0 11 14).bind fun oq55 => match oq55 with
    | none => none
    | some q55 =>
    (aI [0, 6] S q55 ((60 * x1) + x5)).bind fun v56 =>
    (oR S x0 11 15).bind fun oq57 => match oq57 with
    | none => none
    | some q57 =>
    (aI [0, 6] S q57 ((60 * x1) + x5)).bind fun v58 =>
    (oR S x0 11 13).bind fun oq59 => match oq59 with
    | none => none
    | some q59 =>
    (aI [0, 6] S q59 ((60 * x1) + x5)).bind fun v60 =>
    if v60 = 1 then
    ((oR S x0 11 16).bind fun oq61 => match oq61 with
    | none => none
    | some q61 =>
    (aI [0, 6] S q61 ((60 * x1) + x5)).bind fun v62 =>
    (F_M_unhang N S x0 v62).bind fun S63 =>
    (oR S63 x0 11 27).bind fun oq64 => match oq64 with
    | none => none
    | some q64 =>
    (oR S63 x0 11 16).bind fun oq67 => match oq67 with
    | none => none
    | some q67 =>
    (aI [0, 6] S63 q67 ((60 * x1) + x5)).bind fun v68 =>
    (sI [0] S63 q64 ((6 * v56) + v58) v68).bind fun S69 =>
    F_M_lay_218 N rec82 x0 x1 x4 x5 S69)
    else
    ((oR S x0 11 16).bind fun oq70 => match oq70 with
    | none => none
    | some q70 =>
    (aI [0, 6] S q70 ((60 * x1) + x5)).bind fun v71 =>
    (oR S x0 11 17).bind fun oq72 => match oq72 with
    | none => none
    | some q72 =>
    (aI [0, 6] S q72 ((60 * x1) + x5)).bind fun v73 =>
    (F_M_unjoin N S x0 ((6 * v71) + v73)).bind fun S74 =>
    (oR S74 x0 11 26).bind fun oq75 => match oq75 with
    | none => none
    | some q75 =>
    (sI [0] S74 q75 ((6 * v56) + v58) ((6 * v71) + v73)).bind fun S76 =>
    F_M_lay_218 N rec82 x0 x1 x4 x5 S76)
set_option maxHeartbeats 4000000 in
set_option maxRecDepth 20000 in
theorem f_M_lay_115 (sp : pm_I → List Value → pm_S → pm_O → Prop) (d N : Nat) (rec82 : Int32 → pm_S → Option pm_S) (x0 : Nat) (x1 : Int32) (x4 : Int32) (x5 : Int32) (S : pm_S) (hrec82 : ∀ (y1 : Int32) (U : pm_S) (r : pm_S), rec82 y1 U = some r → pmE pG (pm_rel pG sp (d + 2)) mi_M_lay 82 [some (.ref x0), some (.int x1), none, none, some (.int x4), some (.int y1), none, none, none] [] U (none, r)) (r : pm_S) (h : F_M_lay_115 N rec82 x0 x1 x4 x5 S = some r) : pmE pG (pm_rel pG sp (d + 2)) mi_M_lay 115 [some (.ref x0), some (.int x1), none, none, some (.int x4), some (.int x5), none, none, none] [] S (none, r) := by
  unfold F_M_lay_115 at h
  refine pE_jump 8 (pc' := 127) (ls' := [some (.ref x0), some (.int x1), none, none, some (.int x4), some (.int x5), some (.int ((60 * x1) + x5)), none, none]) (st' := [.ref x0, .int 6]) (fun _ => rfl) ?_
  obtain ⟨oq55, hq55, h⟩ := obind h
  cases oq55 with
  | none => cases h
  | some q55 =>
    try dsimp only at h
    refine pE_gfS rfl rfl hq55 ?_
    refine pE_jump 1 (pc' := 132) (ls' := [some (.ref x0), some (.int x1), none, none, some (.int x4), some (.int x5), some (.int ((60 * x1) + x5)), none, none]) (st' := [.int ((60 * x1) + x5), .ref q55, .int 6]) (fun _ => rfl) ?_
    obtain ⟨v56, hv56, h⟩ := obind h
    refine pE_aI rfl rfl hv56 ?_
    refine pE_jump 2 (pc' := 135) (ls' := [some (.ref x0), some (.int x1), none, none, some (.int x4), some (.int x5), some (.int ((60 * x1) + x5)), none, none]) (st' := [.ref x0, .int (6 * v56)]) (fun _ => rfl) ?_
    obtain ⟨oq57, hq57, h⟩ := obind h
    cases oq57 with
    | none => cases h
    | some q57 =>
      try dsimp only at h
      refine pE_gfS rfl rfl hq57 ?_
      refine pE_jump 1 (pc' := 140) (ls' := [some (.ref x0), some (.int x1), none, none, some (.int x4), some (.int x5), some (.int ((60 * x1) + x5)), none, none]) (st' := [.int ((60 * x1) + x5), .ref q57, .int (6 * v56)]) (fun _ => rfl) ?_
      obtain ⟨v58, hv58, h⟩ := obind h
      refine pE_aI rfl rfl hv58 ?_
      refine pE_jump 3 (pc' := 145) (ls' := [some (.ref x0), some (.int x1), none, none, some (.int x4), some (.int x5), some (.int ((60 * x1) + x5)), some (.int ((6 * v56) + v58)), none]) (st' := [.ref x0]) (fun _ => rfl) ?_
      obtain ⟨oq59, hq59, h⟩ := obind h
      cases oq59 with
      | none => cases h
      | some q59 =>
        try dsimp only at h
        refine pE_gfS rfl rfl hq59 ?_
        refine pE_jump 1 (pc' := 150) (ls' := [some (.ref x0), some (.int x1), none, none, some (.int x4), some (.int x5), some (.int ((60 * x1) + x5)), some (.int ((6 * v56) + v58)), none]) (st' := [.int ((60 * x1) + x5), .ref q59]) (fun _ => rfl) ?_
        obtain ⟨v60, hv60, h⟩ := obind h
        refine pE_aI rfl rfl hv60 ?_
        refine pE_jump 1 (pc' := 152) (ls' := [some (.ref x0), some (.int x1), none, none, some (.int x4), some (.int x5), some (.int ((60 * x1) + x5)), some (.int ((6 * v56) + v58)), none]) (st' := [.int 1, .int v60]) (fun _ => rfl) ?_
        refine pE_br (¬ v60 = 1) rfl rfl (fun c77 => ?_) (fun c77 => ?_)
        · rw [if_neg c77] at h
          refine pE_jump 2 (pc' := 186) (ls' := [some (.ref x0), some (.int x1), none, none, some (.int x4), some (.int x5), some (.int ((60 * x1) + x5)), some (.int ((6 * v56) + v58)), none]) (st' := [.ref x0, .int 6]) (fun _ => rfl) ?_
          obtain ⟨oq70, hq70, h⟩ := obind h
          cases oq70 with
          | none => cases h
          | some q70 =>
            try dsimp only at h
            refine pE_gfS rfl rfl hq70 ?_
            refine pE_jump 1 (pc' := 191) (ls' := [some (.ref x0), some (.int x1), none, none, some (.int x4), some (.int x5), some (.int ((60 * x1) + x5)), some (.int ((6 * v56) + v58)), none]) (st' := [.int ((60 * x1) + x5), .ref q70, .int 6]) (fun _ => rfl) ?_
            obtain ⟨v71, hv71, h⟩ := obind h
            refine pE_aI rfl rfl hv71 ?_
            refine pE_jump 2 (pc' := 194) (ls' := [some (.ref x0), some (.int x1), none, none, some (.int x4), some (.int x5), some (.int ((60 * x1) + x5)), some (.int ((6 * v56) + v58)), none]) (st' := [.ref x0, .int (6 * v71)]) (fun _ => rfl) ?_
            obtain ⟨oq72, hq72, h⟩ := obind h
            cases oq72 with
            | none => cases h
            | some q72 =>
              try dsimp only at h
              refine pE_gfS rfl rfl hq72 ?_
              refine pE_jump 1 (pc' := 199) (ls' := [some (.ref x0), some (.int x1), none, none, some (.int x4), some (.int x5), some (.int ((60 * x1) + x5)), some (.int ((6 * v56) + v58)), none]) (st' := [.int ((60 * x1) + x5), .ref q72, .int (6 * v71)]) (fun _ => rfl) ?_
              obtain ⟨v73, hv73, h⟩ := obind h
              refine pE_aI rfl rfl hv73 ?_
              refine pE_jump 4 (pc' := 206) (ls' := [some (.ref x0), some (.int x1), none, none, some (.int x4), some (.int x5), some (.int ((60 * x1) + x5)), some (.int ((6 * v56) + v58)), some (.int ((6 * v71) + v73))]) (st' := [.int ((6 * v71) + v73), .ref x0]) (fun _ => rfl) ?_
              obtain ⟨S74, hS74, h⟩ := obind h
              refine pE_iv (Bs := [.int ((6 * v71) + v73)]) (st := []) 1 rfl (Or.inl ⟨rfl, rfl⟩) rfl rfl (Nat.le_of_ble_eq_true rfl) (Nat.le_of_ble_eq_true rfl) (g_M_unjoin hS74) (f_M_unjoin sp (d + 1) N S x0 ((6 * v71) + v73) _ hS74) ?_
              refine pE_jump 1 (pc' := 210) (ls' := [some (.ref x0), some (.int x1), none, none, some (.int x4), some (.int x5), some (.int ((60 * x1) + x5)), some (.int ((6 * v56) + v58)), some (.int ((6 * v71) + v73))]) (st' := [.ref x0]) (fun _ => rfl) ?_
              obtain ⟨oq75, hq75, h⟩ := obind h
              cases oq75 with
              | none => cases h
              | some q75 =>
                try dsimp only at h
                refine pE_gfS rfl rfl hq75 ?_
                refine pE_jump 2 (pc' := 217) (ls' := [some (.ref x0), some (.int x1), none, none, some (.int x4), some (.int x5), some (.int ((60 * x1) + x5)), some (.int ((6 * v56) + v58)), some (.int ((6 * v71) + v73))]) (st' := [.int ((6 * v71) + v73), .int ((6 * v56) + v58), .ref q75]) (fun _ => rfl) ?_
                obtain ⟨S76, hS76, h⟩ := obind h
                refine pE_sI rfl rfl hS76 ?_
                refine pE_weak [some (.ref x0), some (.int x1), none, none, some (.int x4), some (.int x5), none, none, none] ⟨rfl, ⟨rfl, ⟨rfl, ⟨rfl, trivial⟩⟩⟩⟩ ?_
                exact f_M_lay_218 sp d N rec82 x0 x1 x4 x5 S76 hrec82 _ h
        · have c77 := Decidable.not_not.mp c77
          rw [if_pos c77] at h
          refine pE_jump 2 (pc' := 157) (ls' := [some (.ref x0), some (.int x1), none, none, some (.int x4), some (.int x5), some (.int ((60 * x1) + x5)), some (.int ((6 * v56) + v58)), none]) (st' := [.ref x0, .ref x0]) (fun _ => rfl) ?_
          obtain ⟨oq61, hq61, h⟩ := obind h
          cases oq61 with
          | none => cases h
          | some q61 =>
            try dsimp only at h
            refine pE_gfS rfl rfl hq61 ?_
            refine pE_jump 1 (pc' := 162) (ls' := [some (.ref x0), some (.int x1), none, none, some (.int x4), some (.int x5), some (.int ((60 * x1) + x5)), some (.int ((6 * v56) + v58)), none]) (st' := [.int ((60 * x1) + x5), .ref q61, .ref x0]) (fun _ => rfl) ?_
            obtain ⟨v62, hv62, h⟩ := obind h
            refine pE_aI rfl rfl hv62 ?_
            obtain ⟨S63, hS63, h⟩ := obind h
            refine pE_iv (Bs := [.int v62]) (st := []) 1 rfl (Or.inl ⟨rfl, rfl⟩) rfl rfl (Nat.le_of_ble_eq_true rfl) (Nat.le_of_ble_eq_true rfl) (g_M_unhang hS63) (f_M_unhang sp (d + 1) N S x0 v62 _ hS63) ?_
            refine pE_jump 1 (pc' := 167) (ls' := [some (.ref x0), some (.int x1), none, none, some (.int x4), some (.int x5), some (.int ((60 * x1) + x5)), some (.int ((6 * v56) + v58)), none]) (st' := [.ref x0]) (fun _ => rfl) ?_
            obtain ⟨oq64, hq64, h⟩ := obind h
            cases oq64 with
            | none => cases h
            | some q64 =>
              try dsimp only at h
              refine pE_gfS rfl rfl hq64 ?_
              refine pE_jump 2 (pc' := 173) (ls' := [some (.ref x0), some (.int x1), none, none, some (.int x4), some (.int x5), some (.int ((60 * x1) + x5)), some (.int ((6 * v56) + v58)), none]) (st' := [.ref x0, .int ((6 * v56) + v58), .ref q64]) (fun _ => rfl) ?_
              obtain ⟨oq67, hq67, h⟩ := obind h
              cases oq67 with
              | none => cases h
              | some q67 =>
                try dsimp only at h
                refine pE_gfS rfl rfl hq67 ?_
                refine pE_jump 1 (pc' := 178) (ls' := [some (.ref x0), some (.int x1), none, none, some (.int x4), some (.int x5), some (.int ((60 * x1) + x5)), some (.int ((6 * v56) + v58)), none]) (st' := [.int ((60 * x1) + x5), .ref q67, .int ((6 * v56) + v58), .ref q64]) (fun _ => rfl) ?_
                obtain ⟨v68, hv68, h⟩ := obind h
                refine pE_aI rfl rfl hv68 ?_
                obtain ⟨S69, hS69, h⟩ := obind h
                refine pE_sI rfl rfl hS69 ?_
                refine pE_jump 1 (pc' := 218) (ls' := [some (.ref x0), some (.int x1), none, none, some (.int x4), some (.int x5), some (.int ((60 * x1) + x5)), some (.int ((6 * v56) + v58)), none]) (st' := []) (fun _ => rfl) ?_
                refine pE_weak [some (.ref x0), some (.int x1), none, none, some (.int x4), some (.int x5), none, none, none] ⟨rfl, ⟨rfl, ⟨rfl, ⟨rfl, trivial⟩⟩⟩⟩ ?_
                exact f_M_lay_218 sp d N rec82 x0 x1 x4 x5 S69 hrec82 _ h
def B_M_lay_82 (N : Nat)  (rec82 : Int32 → pm_S → Option pm_S) (x0 : Nat) (x1 : Int32) (x4 : Int32) (x5 : Int32) (S : pm_S) : Option pm_S :=
    (oR S x0 11 12).bind fun oq9 => match oq9 with
    | none => none
    | some q9 =>
    (aI [0, 6] S q9 x1).bind fun v10 =>
    if v10 ≤ x5 then
    F_M_lay_224 N x0 x1 S
    else
    (if x5 < x4 then
    F_M_lay_115 N rec82 x0 x1 x4 x5 S
    else
    ((F_M_isUndone N S x0 (x5 - x4)).bind fun (v79, S78) =>
    if v79 = 0 then
    F_M_lay_115 N rec82 x0 x1 x4 x5 S78
    else
    F_M_lay_218 N rec82 x0 x1 x4 x5 S78))
def F_M_lay_82 (N : Nat)  (x0 : Nat) (x1 : Int32) (x4 : Int32) : Nat → Int32 → pm_S → Option pm_S
  | 0 => fun _ _ => none
  | n + 1 => fun x5 S => B_M_lay_82 N  (F_M_lay_82 N  x0 x1 x4 n) x0 x1 x4 x5 S
set_option maxHeartbeats 4000000 in
set_option maxRecDepth 20000 in
theorem f_M_lay_82 (sp : pm_I → List Value → pm_S → pm_O → Prop) (d N : Nat)  (x0 : Nat) (x1 : Int32) (x4 : Int32)  : ∀ (n : Nat) (x5 : Int32) (S : pm_S) (r : pm_S), F_M_lay_82 N  x0 x1 x4 n x5 S = some r → pmE pG (pm_rel pG sp (d + 2)) mi_M_lay 82 [some (.ref x0), some (.int x1), none, none, some (.int x4), some (.int x5), none, none, none] [] S (none, r) := by
  intro n
  induction n with
  | zero =>
    intro x5 S r h
    cases h
  | succ n ih =>
    intro x5 S r h
    replace h : B_M_lay_82 N  (F_M_lay_82 N  x0 x1 x4 n) x0 x1 x4 x5 S = some r := h
    have hrec82 := ih
    generalize F_M_lay_82 N  x0 x1 x4 n = rec82 at h hrec82
    unfold B_M_lay_82 at h
    refine pE_jump 2 (pc' := 85) (ls' := [some (.ref x0), some (.int x1), none, none, some (.int x4), some (.int x5), none, none, none]) (st' := [.ref x0, .int x5]) (fun _ => rfl) ?_
    obtain ⟨oq9, hq9, h⟩ := obind h
    cases oq9 with
    | none => cases h
    | some q9 =>
      try dsimp only at h
      refine pE_gfS rfl rfl hq9 ?_
      refine pE_jump 1 (pc' := 89) (ls' := [some (.ref x0), some (.int x1), none, none, some (.int x4), some (.int x5), none, none, none]) (st' := [.int x1, .ref q9, .int x5]) (fun _ => rfl) ?_
      obtain ⟨v10, hv10, h⟩ := obind h
      refine pE_aI rfl rfl hv10 ?_
      refine pE_br (v10 ≤ x5) rfl rfl (fun c82 => ?_) (fun c82 => ?_)
      · rw [if_pos c82] at h
        refine pE_weak [some (.ref x0), some (.int x1), none, none, none, none, none, none, none] ⟨rfl, ⟨rfl, trivial⟩⟩ ?_
        exact f_M_lay_224 sp d N x0 x1 S _ h
      · rw [if_neg c82] at h
        refine pE_jump 2 (pc' := 97) (ls' := [some (.ref x0), some (.int x1), none, none, some (.int x4), some (.int x5), none, none, none]) (st' := [.int x4, .int x5]) (fun _ => rfl) ?_
        refine pE_br (x5 < x4) rfl rfl (fun c81 => ?_) (fun c81 => ?_)
        · rw [if_pos c81] at h
          exact f_M_lay_115 sp d N rec82 x0 x1 x4 x5 S hrec82 _ h
        · rw [if_neg c81] at h
          refine pE_jump 4 (pc' := 106) (ls' := [some (.ref x0), some (.int x1), none, none, some (.int x4), some (.int x5), none, none, none]) (st' := [.int (x5 - x4), .ref x0]) (fun _ => rfl) ?_
          obtain ⟨⟨v79, S78⟩, hv79, h⟩ := obind h
          try dsimp only at h
          refine pE_iv (Bs := [.int (x5 - x4)]) (st := []) 1 rfl (Or.inl ⟨rfl, rfl⟩) rfl rfl (Nat.le_of_ble_eq_true rfl) (Nat.le_of_ble_eq_true rfl) (g_M_isUndone hv79) (f_M_isUndone sp d N S x0 (x5 - x4) _ hv79) ?_
          refine pE_br (v79 = 0) rfl rfl (fun c80 => ?_) (fun c80 => ?_)
          · rw [if_pos c80] at h
            exact f_M_lay_115 sp d N rec82 x0 x1 x4 x5 S78 hrec82 _ h
          · rw [if_neg c80] at h
            refine pE_jump 1 (pc' := 218) (ls' := [some (.ref x0), some (.int x1), none, none, some (.int x4), some (.int x5), none, none, none]) (st' := []) (fun _ => rfl) ?_
            exact f_M_lay_218 sp d N rec82 x0 x1 x4 x5 S78 hrec82 _ h
def F_M_lay_64 (N : Nat)  (x0 : Nat) (x1 : Int32) (S : pm_S) : Option pm_S :=
    (oR S x0 11 12).bind fun oq5 => match oq5 with
    | none => none
    | some q5 =>
    (aI [0, 6] S q5 x1).bind fun v6 =>
    (oR S x0 11 18).bind fun oq7 => match oq7 with
    | none => none
    | some q7 =>
    (aI [0, 6] S q7 x1).bind fun v8 =>
    F_M_lay_82 N x0 x1 (v6 - v8) N 0 S
set_option maxHeartbeats 4000000 in
set_option maxRecDepth 20000 in
theorem f_M_lay_64 (sp : pm_I → List Value → pm_S → pm_O → Prop) (d N : Nat)  (x0 : Nat) (x1 : Int32) (S : pm_S)  (r : pm_S) (h : F_M_lay_64 N  x0 x1 S = some r) : pmE pG (pm_rel pG sp (d + 2)) mi_M_lay 64 [some (.ref x0), some (.int x1), none, none, none, none, none, none, none] [] S (none, r) := by
  unfold F_M_lay_64 at h
  refine pE_jump 1 (pc' := 65) (ls' := [some (.ref x0), some (.int x1), none, none, none, none, none, none, none]) (st' := [.ref x0]) (fun _ => rfl) ?_
  obtain ⟨oq5, hq5, h⟩ := obind h
  cases oq5 with
  | none => cases h
  | some q5 =>
    try dsimp only at h
    refine pE_gfS rfl rfl hq5 ?_
    refine pE_jump 1 (pc' := 69) (ls' := [some (.ref x0), some (.int x1), none, none, none, none, none, none, none]) (st' := [.int x1, .ref q5]) (fun _ => rfl) ?_
    obtain ⟨v6, hv6, h⟩ := obind h
    refine pE_aI rfl rfl hv6 ?_
    refine pE_jump 1 (pc' := 71) (ls' := [some (.ref x0), some (.int x1), none, none, none, none, none, none, none]) (st' := [.ref x0, .int v6]) (fun _ => rfl) ?_
    obtain ⟨oq7, hq7, h⟩ := obind h
    cases oq7 with
    | none => cases h
    | some q7 =>
      try dsimp only at h
      refine pE_gfS rfl rfl hq7 ?_
      refine pE_jump 1 (pc' := 75) (ls' := [some (.ref x0), some (.int x1), none, none, none, none, none, none, none]) (st' := [.int x1, .ref q7, .int v6]) (fun _ => rfl) ?_
      obtain ⟨v8, hv8, h⟩ := obind h
      refine pE_aI rfl rfl hv8 ?_
      refine pE_jump 4 (pc' := 82) (ls' := [some (.ref x0), some (.int x1), none, none, some (.int (v6 - v8)), some (.int 0), none, none, none]) (st' := []) (fun _ => rfl) ?_
      exact f_M_lay_82 sp d N x0 x1 (v6 - v8) N 0 S _ h
def B_M_lay_23 (N : Nat)  (rec23 : Int32 → pm_S → Option pm_S) (x0 : Nat) (x1 : Int32) (x4 : Int32) (S : pm_S) : Option pm_S :=
    if 42 ≤ x4 then
    F_M_lay_64 N x0 x1 S
    else
    ((oR S x0 11 26).bind fun oq83 => match oq83 with
    | none => none
    | some q83 =>
    (sI [0] S q83 x4 (-1)).bind fun S84 =>
    (oR S84 x0 11 27).bind fun oq85 => match oq85 with
    | none => none
    | some q85 =>
    (sI [0] S84 q85 x4 (-1)).bind fun S86 =>
    (oR S86 x0 11 28).bind fun oq87 => match oq87 with
    | none => none
    | some q87 =>
    (sI [0] S86 q87 x4 (x4 - x4 / 6 * 6)).bind fun S88 =>
    rec23 (x4 + 1) S88)
def F_M_lay_23 (N : Nat)  (x0 : Nat) (x1 : Int32) : Nat → Int32 → pm_S → Option pm_S
  | 0 => fun _ _ => none
  | n + 1 => fun x4 S => B_M_lay_23 N  (F_M_lay_23 N  x0 x1 n) x0 x1 x4 S
set_option maxHeartbeats 4000000 in
set_option maxRecDepth 20000 in
theorem f_M_lay_23 (sp : pm_I → List Value → pm_S → pm_O → Prop) (d N : Nat)  (x0 : Nat) (x1 : Int32)  : ∀ (n : Nat) (x4 : Int32) (S : pm_S) (r : pm_S), F_M_lay_23 N  x0 x1 n x4 S = some r → pmE pG (pm_rel pG sp (d + 2)) mi_M_lay 23 [some (.ref x0), some (.int x1), none, none, some (.int x4), none, none, none, none] [] S (none, r) := by
  intro n
  induction n with
  | zero =>
    intro x4 S r h
    cases h
  | succ n ih =>
    intro x4 S r h
    replace h : B_M_lay_23 N  (F_M_lay_23 N  x0 x1 n) x0 x1 x4 S = some r := h
    have hrec23 := ih
    generalize F_M_lay_23 N  x0 x1 n = rec23 at h hrec23
    unfold B_M_lay_23 at h
    refine pE_jump 2 (pc' := 27) (ls' := [some (.ref x0), some (.int x1), none, none, some (.int x4), none, none, none, none]) (st' := [.int 42, .int x4]) (fun _ => rfl) ?_
    refine pE_br (42 ≤ x4) rfl rfl (fun c89 => ?_) (fun c89 => ?_)
    · rw [if_pos c89] at h
      refine pE_weak [some (.ref x0), some (.int x1), none, none, none, none, none, none, none] ⟨rfl, ⟨rfl, trivial⟩⟩ ?_
      exact f_M_lay_64 sp d N x0 x1 S _ h
    · rw [if_neg c89] at h
      refine pE_jump 1 (pc' := 31) (ls' := [some (.ref x0), some (.int x1), none, none, some (.int x4), none, none, none, none]) (st' := [.ref x0]) (fun _ => rfl) ?_
      obtain ⟨oq83, hq83, h⟩ := obind h
      cases oq83 with
      | none => cases h
      | some q83 =>
        try dsimp only at h
        refine pE_gfS rfl rfl hq83 ?_
        refine pE_jump 2 (pc' := 37) (ls' := [some (.ref x0), some (.int x1), none, none, some (.int x4), none, none, none, none]) (st' := [.int (-1), .int x4, .ref q83]) (fun _ => rfl) ?_
        obtain ⟨S84, hS84, h⟩ := obind h
        refine pE_sI rfl rfl hS84 ?_
        refine pE_jump 1 (pc' := 39) (ls' := [some (.ref x0), some (.int x1), none, none, some (.int x4), none, none, none, none]) (st' := [.ref x0]) (fun _ => rfl) ?_
        obtain ⟨oq85, hq85, h⟩ := obind h
        cases oq85 with
        | none => cases h
        | some q85 =>
          try dsimp only at h
          refine pE_gfS rfl rfl hq85 ?_
          refine pE_jump 2 (pc' := 45) (ls' := [some (.ref x0), some (.int x1), none, none, some (.int x4), none, none, none, none]) (st' := [.int (-1), .int x4, .ref q85]) (fun _ => rfl) ?_
          obtain ⟨S86, hS86, h⟩ := obind h
          refine pE_sI rfl rfl hS86 ?_
          refine pE_jump 1 (pc' := 47) (ls' := [some (.ref x0), some (.int x1), none, none, some (.int x4), none, none, none, none]) (st' := [.ref x0]) (fun _ => rfl) ?_
          obtain ⟨oq87, hq87, h⟩ := obind h
          cases oq87 with
          | none => cases h
          | some q87 =>
            try dsimp only at h
            refine pE_gfS rfl rfl hq87 ?_
            refine pE_jump 3 (pc' := 56) (ls' := [some (.ref x0), some (.int x1), none, none, some (.int x4), none, none, none, none]) (st' := [.int 6, .int x4, .int x4, .ref q87]) (fun _ => rfl) ?_
            refine pE_jump 1 (pc' := 57) (ls' := [some (.ref x0), some (.int x1), none, none, some (.int x4), none, none, none, none]) (st' := [.int (x4 - x4 / 6 * 6), .int x4, .ref q87]) (fun _ => rfl) ?_
            obtain ⟨S88, hS88, h⟩ := obind h
            refine pE_sI rfl rfl hS88 ?_
            refine pE_jump 2 (pc' := 23) (ls' := [some (.ref x0), some (.int x1), none, none, some (.int (x4 + 1)), none, none, none, none]) (st' := []) (fun _ => rfl) ?_
            exact hrec23 (x4 + 1) S88 _ h
def F_M_lay (N : Nat) (S : pm_S) (a : Nat) (p0 : Int32) (p1 : Int32) (p2 : Int32) : Option pm_S :=
    if rcv S a 11 = true then
    ((wF S a 11 29 .int (.int p0)).bind fun S1 =>
    (wF S1 a 11 30 .int (.int p1)).bind fun S2 =>
    (wF S2 a 11 34 .boolean (.int p2)).bind fun S3 =>
    (wF S3 a 11 31 .int (.int (-1))).bind fun S4 =>
    F_M_lay_23 N a p0 N 0 S4)
    else none
theorem g_M_lay {N : Nat} {S : pm_S} {a : Nat} {p0 : Int32} {p1 : Int32} {p2 : Int32} {r : pm_S} (h : F_M_lay N S a p0 p1 p2 = some r) : rcv S a 11 = true := by
  unfold F_M_lay at h
  by_cases c : rcv S a 11 = true
  · exact c
  · rw [if_neg c] at h; cases h
set_option maxHeartbeats 4000000 in
set_option maxRecDepth 20000 in
theorem f_M_lay (sp : pm_I → List Value → pm_S → pm_O → Prop) (d N : Nat) (S : pm_S) (a : Nat) (p0 : Int32) (p1 : Int32) (p2 : Int32) (r : pm_S) (h : F_M_lay N S a p0 p1 p2 = some r) : pm_rel pG sp (d + 3) mi_M_lay [.ref a, .int p0, .int p1, .int p2] S (none, r) := by
  have hg := g_M_lay h
  unfold F_M_lay at h
  rw [if_pos hg] at h
  refine pE_rel (d := d + 2) ?_
  show pmE pG _ mi_M_lay 0 [some (.ref a), some (.int p0), some (.int p1), some (.int p2), none, none, none, none, none] [] S _
  refine pE_jump 2 (pc' := 2) (ls' := [some (.ref a), some (.int p0), some (.int p1), some (.int p2), none, none, none, none, none]) (st' := [.int p0, .ref a]) (fun _ => rfl) ?_
  obtain ⟨S1, hS1, h⟩ := obind h
  refine pE_pf rfl rfl rfl hS1 ?_
  refine pE_jump 2 (pc' := 7) (ls' := [some (.ref a), some (.int p0), some (.int p1), some (.int p2), none, none, none, none, none]) (st' := [.int p1, .ref a]) (fun _ => rfl) ?_
  obtain ⟨S2, hS2, h⟩ := obind h
  refine pE_pf rfl rfl rfl hS2 ?_
  refine pE_jump 2 (pc' := 12) (ls' := [some (.ref a), some (.int p0), some (.int p1), some (.int p2), none, none, none, none, none]) (st' := [.int p2, .ref a]) (fun _ => rfl) ?_
  obtain ⟨S3, hS3, h⟩ := obind h
  refine pE_pf rfl rfl rfl hS3 ?_
  refine pE_jump 2 (pc' := 17) (ls' := [some (.ref a), some (.int p0), some (.int p1), some (.int p2), none, none, none, none, none]) (st' := [.int (-1), .ref a]) (fun _ => rfl) ?_
  obtain ⟨S4, hS4, h⟩ := obind h
  refine pE_pf rfl rfl rfl hS4 ?_
  refine pE_jump 2 (pc' := 23) (ls' := [some (.ref a), some (.int p0), some (.int p1), some (.int p2), some (.int 0), none, none, none, none]) (st' := []) (fun _ => rfl) ?_
  refine pE_weak [some (.ref a), some (.int p0), none, none, some (.int 0), none, none, none, none] ⟨rfl, ⟨rfl, ⟨rfl, trivial⟩⟩⟩ ?_
  exact f_M_lay_23 sp d N a p0 N 0 S4 _ h
