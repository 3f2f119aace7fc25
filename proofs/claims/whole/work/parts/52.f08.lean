def F_Bench_tell (N : Nat) (S : pm_S) (a : Nat) (p0 : Nat) (p1 : Int32) (p2 : Int32) : Option (Int32 × pm_S) :=
    if rcv S a 0 = true then
    ((oR S p0 4 8).bind fun oq1 => match oq1 with
    | none => none
    | some q1 =>
    (F_Ledger_at N S q1 p1 1).bind fun (v3, S2) =>
    (oR S2 p0 4 8).bind fun oq4 => match oq4 with
    | none => none
    | some q4 =>
    (F_Ledger_at N S2 q4 p1 2).bind fun (v6, S5) =>
    (oR S5 p0 4 8).bind fun oq7 => match oq7 with
    | none => none
    | some q7 =>
    (F_Ledger_at N S5 q7 p1 0).bind fun (v9, S8) =>
    if v9 = 1 then
    ((oR S8 a 0 0).bind fun oq10 => match oq10 with
    | none => none
    | some q10 =>
    (F_Wires_measure N S8 q10 p2 v3 v6).bind fun (v12, S11) =>
    some (v12, S11))
    else
    ((oR S8 a 0 1).bind fun oq13 => match oq13 with
    | none => none
    | some q13 =>
    (oR S8 a 0 0).bind fun oq15 => match oq15 with
    | none => none
    | some q15 =>
    (F_Tone_send N S8 q13 q15 p2 v3 v6).bind fun S16 =>
    (oR S16 a 0 1).bind fun oq17 => match oq17 with
    | none => none
    | some q17 =>
    (oR S16 p0 4 8).bind fun oq24 => match oq24 with
    | none => none
    | some q24 =>
    (F_Ledger_at N S16 q24 p1 3).bind fun (v26, S25) =>
    (oR S25 p0 4 8).bind fun oq27 => match oq27 with
    | none => none
    | some q27 =>
    (F_Ledger_at N S25 q27 p1 4).bind fun (v29, S28) =>
    (F_Tone_comesTo N S28 q17 v26 v29).bind fun (v31, S30) =>
    some (v31, S30)))
    else none
theorem g_Bench_tell {N : Nat} {S : pm_S} {a : Nat} {p0 : Nat} {p1 : Int32} {p2 : Int32} {r : (Int32 × pm_S)} (h : F_Bench_tell N S a p0 p1 p2 = some r) : rcv S a 0 = true := by
  unfold F_Bench_tell at h
  by_cases c : rcv S a 0 = true
  · exact c
  · rw [if_neg c] at h; cases h
set_option maxHeartbeats 4000000 in
set_option maxRecDepth 20000 in
theorem f_Bench_tell (sp : pm_I → List Value → pm_S → pm_O → Prop) (d N : Nat) (S : pm_S) (a : Nat) (p0 : Nat) (p1 : Int32) (p2 : Int32) (r : (Int32 × pm_S)) (h : F_Bench_tell N S a p0 p1 p2 = some r) : pm_rel pG sp (d + 5) mi_Bench_tell [.ref a, .ref p0, .int p1, .int p2] S (some (.int r.1), r.2) := by
  have hg := g_Bench_tell h
  unfold F_Bench_tell at h
  rw [if_pos hg] at h
  refine pE_rel (d := d + 4) ?_
  show pmE pG _ mi_Bench_tell 0 [some (.ref a), some (.ref p0), some (.int p1), some (.int p2), none, none] [] S _
  refine pE_jump 1 (pc' := 1) (ls' := [some (.ref a), some (.ref p0), some (.int p1), some (.int p2), none, none]) (st' := [.ref p0]) (fun _ => rfl) ?_
  obtain ⟨oq1, hq1, h⟩ := obind h
  cases oq1 with
  | none => cases h
  | some q1 =>
    try dsimp only at h
    refine pE_gfS rfl rfl hq1 ?_
    refine pE_jump 2 (pc' := 6) (ls' := [some (.ref a), some (.ref p0), some (.int p1), some (.int p2), none, none]) (st' := [.int 1, .int p1, .ref q1]) (fun _ => rfl) ?_
    obtain ⟨⟨v3, S2⟩, hv3, h⟩ := obind h
    try dsimp only at h
    refine pE_iv (Bs := [.int p1, .int 1]) (st := []) 1 rfl (Or.inl ⟨rfl, rfl⟩) rfl rfl (Nat.le_of_ble_eq_true rfl) (Nat.le_of_ble_eq_true rfl) (g_Ledger_at hv3) (f_Ledger_at sp (d + 3) N S q1 p1 1 _ hv3) ?_
    refine pE_jump 2 (pc' := 12) (ls' := [some (.ref a), some (.ref p0), some (.int p1), some (.int p2), some (.int v3), none]) (st' := [.ref p0]) (fun _ => rfl) ?_
    obtain ⟨oq4, hq4, h⟩ := obind h
    cases oq4 with
    | none => cases h
    | some q4 =>
      try dsimp only at h
      refine pE_gfS rfl rfl hq4 ?_
      refine pE_jump 2 (pc' := 17) (ls' := [some (.ref a), some (.ref p0), some (.int p1), some (.int p2), some (.int v3), none]) (st' := [.int 2, .int p1, .ref q4]) (fun _ => rfl) ?_
      obtain ⟨⟨v6, S5⟩, hv6, h⟩ := obind h
      try dsimp only at h
      refine pE_iv (Bs := [.int p1, .int 2]) (st := []) 1 rfl (Or.inl ⟨rfl, rfl⟩) rfl rfl (Nat.le_of_ble_eq_true rfl) (Nat.le_of_ble_eq_true rfl) (g_Ledger_at hv6) (f_Ledger_at sp (d + 3) N S2 q4 p1 2 _ hv6) ?_
      refine pE_jump 2 (pc' := 23) (ls' := [some (.ref a), some (.ref p0), some (.int p1), some (.int p2), some (.int v3), some (.int v6)]) (st' := [.ref p0]) (fun _ => rfl) ?_
      obtain ⟨oq7, hq7, h⟩ := obind h
      cases oq7 with
      | none => cases h
      | some q7 =>
        try dsimp only at h
        refine pE_gfS rfl rfl hq7 ?_
        refine pE_jump 2 (pc' := 28) (ls' := [some (.ref a), some (.ref p0), some (.int p1), some (.int p2), some (.int v3), some (.int v6)]) (st' := [.int 0, .int p1, .ref q7]) (fun _ => rfl) ?_
        obtain ⟨⟨v9, S8⟩, hv9, h⟩ := obind h
        try dsimp only at h
        refine pE_iv (Bs := [.int p1, .int 0]) (st := []) 1 rfl (Or.inl ⟨rfl, rfl⟩) rfl rfl (Nat.le_of_ble_eq_true rfl) (Nat.le_of_ble_eq_true rfl) (g_Ledger_at hv9) (f_Ledger_at sp (d + 3) N S5 q7 p1 0 _ hv9) ?_
        refine pE_jump 1 (pc' := 32) (ls' := [some (.ref a), some (.ref p0), some (.int p1), some (.int p2), some (.int v3), some (.int v6)]) (st' := [.int 1, .int v9]) (fun _ => rfl) ?_
        refine pE_br (¬ v9 = 1) rfl rfl (fun c32 => ?_) (fun c32 => ?_)
        · rw [if_neg c32] at h
          refine pE_jump 1 (pc' := 49) (ls' := [some (.ref a), some (.ref p0), some (.int p1), some (.int p2), some (.int v3), some (.int v6)]) (st' := [.ref a]) (fun _ => rfl) ?_
          obtain ⟨oq13, hq13, h⟩ := obind h
          cases oq13 with
          | none => cases h
          | some q13 =>
            try dsimp only at h
            refine pE_gfS rfl rfl hq13 ?_
            refine pE_jump 1 (pc' := 53) (ls' := [some (.ref a), some (.ref p0), some (.int p1), some (.int p2), some (.int v3), some (.int v6)]) (st' := [.ref a, .ref q13]) (fun _ => rfl) ?_
            obtain ⟨oq15, hq15, h⟩ := obind h
            cases oq15 with
            | none => cases h
            | some q15 =>
              try dsimp only at h
              refine pE_gfS rfl rfl hq15 ?_
              refine pE_jump 3 (pc' := 61) (ls' := [some (.ref a), some (.ref p0), some (.int p1), some (.int p2), some (.int v3), some (.int v6)]) (st' := [.int v6, .int v3, .int p2, .ref q15, .ref q13]) (fun _ => rfl) ?_
              obtain ⟨S16, hS16, h⟩ := obind h
              refine pE_iv (Bs := [.ref q15, .int p2, .int v3, .int v6]) (st := []) 1 rfl (Or.inl ⟨rfl, rfl⟩) rfl rfl (Nat.le_of_ble_eq_true rfl) (Nat.le_of_ble_eq_true rfl) (g_Tone_send hS16) (f_Tone_send sp d N S8 q13 q15 p2 v3 v6 _ hS16) ?_
              refine pE_jump 1 (pc' := 65) (ls' := [some (.ref a), some (.ref p0), some (.int p1), some (.int p2), some (.int v3), some (.int v6)]) (st' := [.ref a]) (fun _ => rfl) ?_
              obtain ⟨oq17, hq17, h⟩ := obind h
              cases oq17 with
              | none => cases h
              | some q17 =>
                try dsimp only at h
                refine pE_gfS rfl rfl hq17 ?_
                refine pE_jump 1 (pc' := 69) (ls' := [some (.ref a), some (.ref p0), some (.int p1), some (.int p2), some (.int v3), some (.int v6)]) (st' := [.ref p0, .ref q17]) (fun _ => rfl) ?_
                obtain ⟨oq24, hq24, h⟩ := obind h
                cases oq24 with
                | none => cases h
                | some q24 =>
                  try dsimp only at h
                  refine pE_gfS rfl rfl hq24 ?_
                  refine pE_jump 2 (pc' := 74) (ls' := [some (.ref a), some (.ref p0), some (.int p1), some (.int p2), some (.int v3), some (.int v6)]) (st' := [.int 3, .int p1, .ref q24, .ref q17]) (fun _ => rfl) ?_
                  obtain ⟨⟨v26, S25⟩, hv26, h⟩ := obind h
                  try dsimp only at h
                  refine pE_iv (Bs := [.int p1, .int 3]) (st := [.ref q17]) 1 rfl (Or.inl ⟨rfl, rfl⟩) rfl rfl (Nat.le_of_ble_eq_true rfl) (Nat.le_of_ble_eq_true rfl) (g_Ledger_at hv26) (f_Ledger_at sp (d + 3) N S16 q24 p1 3 _ hv26) ?_
                  refine pE_jump 1 (pc' := 78) (ls' := [some (.ref a), some (.ref p0), some (.int p1), some (.int p2), some (.int v3), some (.int v6)]) (st' := [.ref p0, .int v26, .ref q17]) (fun _ => rfl) ?_
                  obtain ⟨oq27, hq27, h⟩ := obind h
                  cases oq27 with
                  | none => cases h
                  | some q27 =>
                    try dsimp only at h
                    refine pE_gfS rfl rfl hq27 ?_
                    refine pE_jump 2 (pc' := 83) (ls' := [some (.ref a), some (.ref p0), some (.int p1), some (.int p2), some (.int v3), some (.int v6)]) (st' := [.int 4, .int p1, .ref q27, .int v26, .ref q17]) (fun _ => rfl) ?_
                    obtain ⟨⟨v29, S28⟩, hv29, h⟩ := obind h
                    try dsimp only at h
                    refine pE_iv (Bs := [.int p1, .int 4]) (st := [.int v26, .ref q17]) 1 rfl (Or.inl ⟨rfl, rfl⟩) rfl rfl (Nat.le_of_ble_eq_true rfl) (Nat.le_of_ble_eq_true rfl) (g_Ledger_at hv29) (f_Ledger_at sp (d + 3) N S25 q27 p1 4 _ hv29) ?_
                    obtain ⟨⟨v31, S30⟩, hv31, h⟩ := obind h
                    try dsimp only at h
                    refine pE_iv (Bs := [.int v26, .int v29]) (st := []) 1 rfl (Or.inl ⟨rfl, rfl⟩) rfl rfl (Nat.le_of_ble_eq_true rfl) (Nat.le_of_ble_eq_true rfl) (g_Tone_comesTo hv31) (f_Tone_comesTo sp (d + 2) N S28 q17 v26 v29 _ hv31) ?_
                    cases h
                    exact pE_ret rfl rfl rfl
        · have c32 := Decidable.not_not.mp c32
          rw [if_pos c32] at h
          refine pE_jump 1 (pc' := 36) (ls' := [some (.ref a), some (.ref p0), some (.int p1), some (.int p2), some (.int v3), some (.int v6)]) (st' := [.ref a]) (fun _ => rfl) ?_
          obtain ⟨oq10, hq10, h⟩ := obind h
          cases oq10 with
          | none => cases h
          | some q10 =>
            try dsimp only at h
            refine pE_gfS rfl rfl hq10 ?_
            refine pE_jump 3 (pc' := 44) (ls' := [some (.ref a), some (.ref p0), some (.int p1), some (.int p2), some (.int v3), some (.int v6)]) (st' := [.int v6, .int v3, .int p2, .ref q10]) (fun _ => rfl) ?_
            obtain ⟨⟨v12, S11⟩, hv12, h⟩ := obind h
            try dsimp only at h
            refine pE_iv (Bs := [.int p2, .int v3, .int v6]) (st := []) 1 rfl (Or.inl ⟨rfl, rfl⟩) rfl rfl (Nat.le_of_ble_eq_true rfl) (Nat.le_of_ble_eq_true rfl) (g_Wires_measure hv12) (f_Wires_measure sp (d + 1) N S8 q10 p2 v3 v6 _ hv12) ?_
            cases h
            exact pE_ret rfl rfl rfl
def F_BP_tells_25 (N : Nat)   (S : pm_S) : Option (Int32 × pm_S) :=
    some ((-1), S)
set_option maxHeartbeats 4000000 in
set_option maxRecDepth 20000 in
theorem f_BP_tells_25 (sp : pm_I → List Value → pm_S → pm_O → Prop) (d N : Nat)   (S : pm_S)  (r : (Int32 × pm_S)) (h : F_BP_tells_25 N   S = some r) : pmE pG (pm_rel pG sp (d + 5)) mi_BP_tells 25 [none, none, none, none, none, none] [] S (some (.int r.1), r.2) := by
  unfold F_BP_tells_25 at h
  refine pE_jump 1 (pc' := 26) (ls' := [none, none, none, none, none, none]) (st' := [.int (-1)]) (fun _ => rfl) ?_
  cases h
  exact pE_ret rfl rfl rfl
def F_BP_tells (N : Nat) (S : pm_S) (a : Nat) (p0 : Int32) (p1 : Int32) (p2 : Int32) (p3 : Int32) : Option (Int32 × pm_S) :=
    if rcv S a 10 = true then
    ((F_BP_planWith N S a p0 p2).bind fun (oq2, S1) => match oq2 with
    | none => F_BP_tells_25 N S1
    | some q2 =>
    (oR S1 q2 4 8).bind fun oq3 => match oq3 with
    | none => none
    | some q3 =>
    (F_Ledger_has N S1 q3 p1).bind fun (v5, S4) =>
    if v5 = 0 then
    F_BP_tells_25 N S4
    else
    ((oR S4 a 10 3).bind fun oq6 => match oq6 with
    | none => none
    | some q6 =>
    (oR S4 q6 0 0).bind fun oq7 => match oq7 with
    | none => none
    | some q7 =>
    (F_Wires_lay N S4 q7 q2 p2).bind fun S8 =>
    (oR S8 a 10 3).bind fun oq9 => match oq9 with
    | none => none
    | some q9 =>
    (F_Bench_tell N S8 q9 q2 p1 p3).bind fun (v11, S10) =>
    some (v11, S10)))
    else none
theorem g_BP_tells {N : Nat} {S : pm_S} {a : Nat} {p0 : Int32} {p1 : Int32} {p2 : Int32} {p3 : Int32} {r : (Int32 × pm_S)} (h : F_BP_tells N S a p0 p1 p2 p3 = some r) : rcv S a 10 = true := by
  unfold F_BP_tells at h
  by_cases c : rcv S a 10 = true
  · exact c
  · rw [if_neg c] at h; cases h
set_option maxHeartbeats 4000000 in
set_option maxRecDepth 20000 in
theorem f_BP_tells (sp : pm_I → List Value → pm_S → pm_O → Prop) (d N : Nat) (S : pm_S) (a : Nat) (p0 : Int32) (p1 : Int32) (p2 : Int32) (p3 : Int32) (r : (Int32 × pm_S)) (h : F_BP_tells N S a p0 p1 p2 p3 = some r) : pm_rel pG sp (d + 6) mi_BP_tells [.ref a, .int p0, .int p1, .int p2, .int p3] S (some (.int r.1), r.2) := by
  have hg := g_BP_tells h
  unfold F_BP_tells at h
  rw [if_pos hg] at h
  refine pE_rel (d := d + 5) ?_
  show pmE pG _ mi_BP_tells 0 [some (.ref a), some (.int p0), some (.int p1), some (.int p2), some (.int p3), none] [] S _
  refine pE_jump 3 (pc' := 3) (ls' := [some (.ref a), some (.int p0), some (.int p1), some (.int p2), some (.int p3), none]) (st' := [.int p2, .int p0, .ref a]) (fun _ => rfl) ?_
  obtain ⟨⟨oq2, S1⟩, hq2, h⟩ := obind h
  try dsimp only at h
  cases oq2 with
  | none =>
    try dsimp only at h
    refine pE_iv (Bs := [.int p0, .int p2]) (st := []) 1 rfl (Or.inl ⟨rfl, rfl⟩) rfl rfl (Nat.le_of_ble_eq_true rfl) (Nat.le_of_ble_eq_true rfl) (g_BP_planWith hq2) (f_BP_planWith sp (d + 1) N S a p0 p2 _ hq2) ?_
    refine pE_jump 3 (pc' := 25) (ls' := [some (.ref a), some (.int p0), some (.int p1), some (.int p2), some (.int p3), some (.null)]) (st' := []) (fun _ => rfl) ?_
    refine pE_weak [none, none, none, none, none, none] trivial ?_
    exact f_BP_tells_25 sp d N S1 _ h
  | some q2 =>
    try dsimp only at h
    refine pE_iv (Bs := [.int p0, .int p2]) (st := []) 1 rfl (Or.inl ⟨rfl, rfl⟩) rfl rfl (Nat.le_of_ble_eq_true rfl) (Nat.le_of_ble_eq_true rfl) (g_BP_planWith hq2) (f_BP_planWith sp (d + 1) N S a p0 p2 _ hq2) ?_
    refine pE_jump 4 (pc' := 15) (ls' := [some (.ref a), some (.int p0), some (.int p1), some (.int p2), some (.int p3), some (.ref q2)]) (st' := [.ref q2]) (fun _ => rfl) ?_
    obtain ⟨oq3, hq3, h⟩ := obind h
    cases oq3 with
    | none => cases h
    | some q3 =>
      try dsimp only at h
      refine pE_gfS rfl rfl hq3 ?_
      refine pE_jump 1 (pc' := 19) (ls' := [some (.ref a), some (.int p0), some (.int p1), some (.int p2), some (.int p3), some (.ref q2)]) (st' := [.int p1, .ref q3]) (fun _ => rfl) ?_
      obtain ⟨⟨v5, S4⟩, hv5, h⟩ := obind h
      try dsimp only at h
      refine pE_iv (Bs := [.int p1]) (st := []) 1 rfl (Or.inl ⟨rfl, rfl⟩) rfl rfl (Nat.le_of_ble_eq_true rfl) (Nat.le_of_ble_eq_true rfl) (g_Ledger_has hv5) (f_Ledger_has sp (d + 4) N S1 q3 p1 _ hv5) ?_
      refine pE_br (¬ v5 = 0) rfl rfl (fun c12 => ?_) (fun c12 => ?_)
      · rw [if_neg c12] at h
        refine pE_jump 1 (pc' := 28) (ls' := [some (.ref a), some (.int p0), some (.int p1), some (.int p2), some (.int p3), some (.ref q2)]) (st' := [.ref a]) (fun _ => rfl) ?_
        obtain ⟨oq6, hq6, h⟩ := obind h
        cases oq6 with
        | none => cases h
        | some q6 =>
          try dsimp only at h
          refine pE_gfS rfl rfl hq6 ?_
          obtain ⟨oq7, hq7, h⟩ := obind h
          cases oq7 with
          | none => cases h
          | some q7 =>
            try dsimp only at h
            refine pE_gfS rfl rfl hq7 ?_
            refine pE_jump 2 (pc' := 37) (ls' := [some (.ref a), some (.int p0), some (.int p1), some (.int p2), some (.int p3), some (.ref q2)]) (st' := [.int p2, .ref q2, .ref q7]) (fun _ => rfl) ?_
            obtain ⟨S8, hS8, h⟩ := obind h
            refine pE_iv (Bs := [.ref q2, .int p2]) (st := []) 1 rfl (Or.inl ⟨rfl, rfl⟩) rfl rfl (Nat.le_of_ble_eq_true rfl) (Nat.le_of_ble_eq_true rfl) (g_Wires_lay hS8) (f_Wires_lay sp d N S4 q7 q2 p2 _ hS8) ?_
            refine pE_jump 1 (pc' := 41) (ls' := [some (.ref a), some (.int p0), some (.int p1), some (.int p2), some (.int p3), some (.ref q2)]) (st' := [.ref a]) (fun _ => rfl) ?_
            obtain ⟨oq9, hq9, h⟩ := obind h
            cases oq9 with
            | none => cases h
            | some q9 =>
              try dsimp only at h
              refine pE_gfS rfl rfl hq9 ?_
              refine pE_jump 3 (pc' := 49) (ls' := [some (.ref a), some (.int p0), some (.int p1), some (.int p2), some (.int p3), some (.ref q2)]) (st' := [.int p3, .int p1, .ref q2, .ref q9]) (fun _ => rfl) ?_
              obtain ⟨⟨v11, S10⟩, hv11, h⟩ := obind h
              try dsimp only at h
              refine pE_iv (Bs := [.ref q2, .int p1, .int p3]) (st := []) 1 rfl (Or.inl ⟨rfl, rfl⟩) rfl rfl (Nat.le_of_ble_eq_true rfl) (Nat.le_of_ble_eq_true rfl) (g_Bench_tell hv11) (f_Bench_tell sp d N S8 q9 q2 p1 p3 _ hv11) ?_
              cases h
              exact pE_ret rfl rfl rfl
      · have c12 := Decidable.not_not.mp c12
        rw [if_pos c12] at h
        refine pE_weak [none, none, none, none, none, none] trivial ?_
        exact f_BP_tells_25 sp d N S4 _ h
def F_Sheet_forgetFits (N : Nat) (S : pm_S) (a : Nat) : Option pm_S :=
    if rcv S a 5 = true then
    ((wF S a 5 4 .boolean (.int 0)).bind fun S1 =>
    some S1)
    else none
theorem g_Sheet_forgetFits {N : Nat} {S : pm_S} {a : Nat} {r : pm_S} (h : F_Sheet_forgetFits N S a = some r) : rcv S a 5 = true := by
  unfold F_Sheet_forgetFits at h
  by_cases c : rcv S a 5 = true
  · exact c
  · rw [if_neg c] at h; cases h
set_option maxHeartbeats 4000000 in
set_option maxRecDepth 20000 in
theorem f_Sheet_forgetFits (sp : pm_I → List Value → pm_S → pm_O → Prop) (d N : Nat) (S : pm_S) (a : Nat) (r : pm_S) (h : F_Sheet_forgetFits N S a = some r) : pm_rel pG sp (d + 1) mi_Sheet_forgetFits [.ref a] S (none, r) := by
  have hg := g_Sheet_forgetFits h
  unfold F_Sheet_forgetFits at h
  rw [if_pos hg] at h
  refine pE_rel (d := d + 0) ?_
  show pmE pG _ mi_Sheet_forgetFits 0 [some (.ref a)] [] S _
  refine pE_jump 2 (pc' := 2) (ls' := [some (.ref a)]) (st' := [.int 0, .ref a]) (fun _ => rfl) ?_
  obtain ⟨S1, hS1, h⟩ := obind h
  refine pE_pf rfl rfl rfl hS1 ?_
  cases h
  exact pE_ret rfl rfl rfl
def F_Plan_addReading_14_2 (N : Nat)  (x0 : Nat) (x3 : Int32) (t0 : Int32) (t1 : Int32) (t2 : Nat) (S : pm_S) : Option (Int32 × pm_S) :=
    (F_Ledger_add N S t2 t1 t0 x3 0 0).bind fun (v3, S2) =>
    if v3 = (-1) then
    some ((-1), S2)
    else
    ((oR S2 x0 4 11).bind fun oq4 => match oq4 with
    | none => none
    | some q4 =>
    (F_Sheet_forgetFits N S2 q4).bind fun S5 =>
    (oR S5 x0 4 9).bind fun oq6 => match oq6 with
    | none => none
    | some q6 =>
    (F_Ledger_size N S5 q6).bind fun (v8, S7) =>
    some (v8, S7))
set_option maxHeartbeats 4000000 in
set_option maxRecDepth 20000 in
theorem f_Plan_addReading_14_2 (sp : pm_I → List Value → pm_S → pm_O → Prop) (d N : Nat)  (x0 : Nat) (x3 : Int32) (t0 : Int32) (t1 : Int32) (t2 : Nat) (S : pm_S)  (r : (Int32 × pm_S)) (h : F_Plan_addReading_14_2 N  x0 x3 t0 t1 t2 S = some r) : pmE pG (pm_rel pG sp (d + 2)) mi_Plan_addReading 14 [some (.ref x0), none, none, some (.int x3)] [.int t0, .int t1, .ref t2] S (some (.int r.1), r.2) := by
  unfold F_Plan_addReading_14_2 at h
  refine pE_jump 3 (pc' := 17) (ls' := [some (.ref x0), none, none, some (.int x3)]) (st' := [.int 0, .int 0, .int x3, .int t0, .int t1, .ref t2]) (fun _ => rfl) ?_
  obtain ⟨⟨v3, S2⟩, hv3, h⟩ := obind h
  try dsimp only at h
  refine pE_iv (Bs := [.int t1, .int t0, .int x3, .int 0, .int 0]) (st := []) 1 rfl (Or.inl ⟨rfl, rfl⟩) rfl rfl (Nat.le_of_ble_eq_true rfl) (Nat.le_of_ble_eq_true rfl) (g_Ledger_add hv3) (f_Ledger_add sp d N S t2 t1 t0 x3 0 0 _ hv3) ?_
  refine pE_jump 1 (pc' := 21) (ls' := [some (.ref x0), none, none, some (.int x3)]) (st' := [.int (-1), .int v3]) (fun _ => rfl) ?_
  refine pE_br (¬ v3 = (-1)) rfl rfl (fun c9 => ?_) (fun c9 => ?_)
  · rw [if_neg c9] at h
    refine pE_jump 1 (pc' := 27) (ls' := [some (.ref x0), none, none, some (.int x3)]) (st' := [.ref x0]) (fun _ => rfl) ?_
    obtain ⟨oq4, hq4, h⟩ := obind h
    cases oq4 with
    | none => cases h
    | some q4 =>
      try dsimp only at h
      refine pE_gfS rfl rfl hq4 ?_
      obtain ⟨S5, hS5, h⟩ := obind h
      refine pE_iv (Bs := []) (st := []) 1 rfl (Or.inl ⟨rfl, rfl⟩) rfl rfl (Nat.le_of_ble_eq_true rfl) (Nat.le_of_ble_eq_true rfl) (g_Sheet_forgetFits hS5) (f_Sheet_forgetFits sp (d + 1) N S2 q4 _ hS5) ?_
      refine pE_jump 1 (pc' := 34) (ls' := [some (.ref x0), none, none, some (.int x3)]) (st' := [.ref x0]) (fun _ => rfl) ?_
      obtain ⟨oq6, hq6, h⟩ := obind h
      cases oq6 with
      | none => cases h
      | some q6 =>
        try dsimp only at h
        refine pE_gfS rfl rfl hq6 ?_
        obtain ⟨⟨v8, S7⟩, hv8, h⟩ := obind h
        try dsimp only at h
        refine pE_iv (Bs := []) (st := []) 1 rfl (Or.inl ⟨rfl, rfl⟩) rfl rfl (Nat.le_of_ble_eq_true rfl) (Nat.le_of_ble_eq_true rfl) (g_Ledger_size hv8) (f_Ledger_size sp (d + 1) N S5 q6 _ hv8) ?_
        cases h
        exact pE_ret rfl rfl rfl
  · have c9 := Decidable.not_not.mp c9
    rw [if_pos c9] at h
    refine pE_jump 1 (pc' := 25) (ls' := [some (.ref x0), none, none, some (.int x3)]) (st' := [.int (-1)]) (fun _ => rfl) ?_
    cases h
    exact pE_ret rfl rfl rfl
def F_Plan_addReading (N : Nat) (S : pm_S) (a : Nat) (p0 : Int32) (p1 : Int32) (p2 : Int32) : Option (Int32 × pm_S) :=
    if rcv S a 4 = true then
    ((oR S a 4 9).bind fun oq1 => match oq1 with
    | none => none
    | some q1 =>
    if p1 = 0 then
    F_Plan_addReading_14_2 N a p2 0 p0 q1 S
    else
    F_Plan_addReading_14_2 N a p2 1 p0 q1 S)
    else none
theorem g_Plan_addReading {N : Nat} {S : pm_S} {a : Nat} {p0 : Int32} {p1 : Int32} {p2 : Int32} {r : (Int32 × pm_S)} (h : F_Plan_addReading N S a p0 p1 p2 = some r) : rcv S a 4 = true := by
  unfold F_Plan_addReading at h
  by_cases c : rcv S a 4 = true
  · exact c
  · rw [if_neg c] at h; cases h
set_option maxHeartbeats 4000000 in
set_option maxRecDepth 20000 in
theorem f_Plan_addReading (sp : pm_I → List Value → pm_S → pm_O → Prop) (d N : Nat) (S : pm_S) (a : Nat) (p0 : Int32) (p1 : Int32) (p2 : Int32) (r : (Int32 × pm_S)) (h : F_Plan_addReading N S a p0 p1 p2 = some r) : pm_rel pG sp (d + 3) mi_Plan_addReading [.ref a, .int p0, .int p1, .int p2] S (some (.int r.1), r.2) := by
  have hg := g_Plan_addReading h
  unfold F_Plan_addReading at h
  rw [if_pos hg] at h
  refine pE_rel (d := d + 2) ?_
  show pmE pG _ mi_Plan_addReading 0 [some (.ref a), some (.int p0), some (.int p1), some (.int p2)] [] S _
  refine pE_jump 1 (pc' := 1) (ls' := [some (.ref a), some (.int p0), some (.int p1), some (.int p2)]) (st' := [.ref a]) (fun _ => rfl) ?_
  obtain ⟨oq1, hq1, h⟩ := obind h
  cases oq1 with
  | none => cases h
  | some q1 =>
    try dsimp only at h
    refine pE_gfS rfl rfl hq1 ?_
    refine pE_jump 2 (pc' := 6) (ls' := [some (.ref a), some (.int p0), some (.int p1), some (.int p2)]) (st' := [.int p1, .int p0, .ref q1]) (fun _ => rfl) ?_
    refine pE_br (p1 = 0) rfl rfl (fun c10 => ?_) (fun c10 => ?_)
    · rw [if_pos c10] at h
      refine pE_jump 1 (pc' := 14) (ls' := [some (.ref a), some (.int p0), some (.int p1), some (.int p2)]) (st' := [.int 0, .int p0, .ref q1]) (fun _ => rfl) ?_
      refine pE_weak [some (.ref a), none, none, some (.int p2)] ⟨rfl, ⟨rfl, trivial⟩⟩ ?_
      exact f_Plan_addReading_14_2 sp d N a p2 0 p0 q1 S _ h
    · rw [if_neg c10] at h
      refine pE_jump 2 (pc' := 14) (ls' := [some (.ref a), some (.int p0), some (.int p1), some (.int p2)]) (st' := [.int 1, .int p0, .ref q1]) (fun _ => rfl) ?_
      refine pE_weak [some (.ref a), none, none, some (.int p2)] ⟨rfl, ⟨rfl, trivial⟩⟩ ?_
      exact f_Plan_addReading_14_2 sp d N a p2 1 p0 q1 S _ h
def F_BP_read_29 (N : Nat)   (S : pm_S) : Option (Int32 × pm_S) :=
    some ((-1), S)
set_option maxHeartbeats 4000000 in
set_option maxRecDepth 20000 in
theorem f_BP_read_29 (sp : pm_I → List Value → pm_S → pm_O → Prop) (d N : Nat)   (S : pm_S)  (r : (Int32 × pm_S)) (h : F_BP_read_29 N   S = some r) : pmE pG (pm_rel pG sp (d + 3)) mi_BP_read 29 [none, none, none, none, none, none] [] S (some (.int r.1), r.2) := by
  unfold F_BP_read_29 at h
  refine pE_jump 1 (pc' := 30) (ls' := [none, none, none, none, none, none]) (st' := [.int (-1)]) (fun _ => rfl) ?_
  cases h
  exact pE_ret rfl rfl rfl
def F_BP_read (N : Nat) (S : pm_S) (a : Nat) (p0 : Int32) (p1 : Int32) (p2 : Int32) (p3 : Int32) : Option (Int32 × pm_S) :=
    if rcv S a 10 = true then
    ((F_BP_planAt N S a p0).bind fun (oq2, S1) => match oq2 with
    | none => F_BP_read_29 N S1
    | some q2 =>
    (oR S1 q2 4 8).bind fun oq3 => match oq3 with
    | none => none
    | some q3 =>
    (F_Ledger_has N S1 q3 p1).bind fun (v5, S4) =>
    if v5 = 0 then
    F_BP_read_29 N S4
    else
    (if 0 ≤ p3 then
    ((F_Plan_addReading N S4 q2 p1 p2 p3).bind fun (v7, S6) =>
    some (v7, S6))
    else
    F_BP_read_29 N S4))
    else none
theorem g_BP_read {N : Nat} {S : pm_S} {a : Nat} {p0 : Int32} {p1 : Int32} {p2 : Int32} {p3 : Int32} {r : (Int32 × pm_S)} (h : F_BP_read N S a p0 p1 p2 p3 = some r) : rcv S a 10 = true := by
  unfold F_BP_read at h
  by_cases c : rcv S a 10 = true
  · exact c
  · rw [if_neg c] at h; cases h
set_option maxHeartbeats 4000000 in
set_option maxRecDepth 20000 in
theorem f_BP_read (sp : pm_I → List Value → pm_S → pm_O → Prop) (d N : Nat) (S : pm_S) (a : Nat) (p0 : Int32) (p1 : Int32) (p2 : Int32) (p3 : Int32) (r : (Int32 × pm_S)) (h : F_BP_read N S a p0 p1 p2 p3 = some r) : pm_rel pG sp (d + 4) mi_BP_read [.ref a, .int p0, .int p1, .int p2, .int p3] S (some (.int r.1), r.2) := by
  have hg := g_BP_read h
  unfold F_BP_read at h
  rw [if_pos hg] at h
  refine pE_rel (d := d + 3) ?_
  show pmE pG _ mi_BP_read 0 [some (.ref a), some (.int p0), some (.int p1), some (.int p2), some (.int p3), none] [] S _
  refine pE_jump 2 (pc' := 2) (ls' := [some (.ref a), some (.int p0), some (.int p1), some (.int p2), some (.int p3), none]) (st' := [.int p0, .ref a]) (fun _ => rfl) ?_
  obtain ⟨⟨oq2, S1⟩, hq2, h⟩ := obind h
  try dsimp only at h
  cases oq2 with
  | none =>
    try dsimp only at h
    refine pE_iv (Bs := [.int p0]) (st := []) 1 rfl (Or.inl ⟨rfl, rfl⟩) rfl rfl (Nat.le_of_ble_eq_true rfl) (Nat.le_of_ble_eq_true rfl) (g_BP_planAt hq2) (f_BP_planAt sp (d + 2) N S a p0 _ hq2) ?_
    refine pE_jump 3 (pc' := 29) (ls' := [some (.ref a), some (.int p0), some (.int p1), some (.int p2), some (.int p3), some (.null)]) (st' := []) (fun _ => rfl) ?_
    refine pE_weak [none, none, none, none, none, none] trivial ?_
    exact f_BP_read_29 sp d N S1 _ h
  | some q2 =>
    try dsimp only at h
    refine pE_iv (Bs := [.int p0]) (st := []) 1 rfl (Or.inl ⟨rfl, rfl⟩) rfl rfl (Nat.le_of_ble_eq_true rfl) (Nat.le_of_ble_eq_true rfl) (g_BP_planAt hq2) (f_BP_planAt sp (d + 2) N S a p0 _ hq2) ?_
    refine pE_jump 4 (pc' := 14) (ls' := [some (.ref a), some (.int p0), some (.int p1), some (.int p2), some (.int p3), some (.ref q2)]) (st' := [.ref q2]) (fun _ => rfl) ?_
    obtain ⟨oq3, hq3, h⟩ := obind h
    cases oq3 with
    | none => cases h
    | some q3 =>
      try dsimp only at h
      refine pE_gfS rfl rfl hq3 ?_
      refine pE_jump 1 (pc' := 18) (ls' := [some (.ref a), some (.int p0), some (.int p1), some (.int p2), some (.int p3), some (.ref q2)]) (st' := [.int p1, .ref q3]) (fun _ => rfl) ?_
      obtain ⟨⟨v5, S4⟩, hv5, h⟩ := obind h
      try dsimp only at h
      refine pE_iv (Bs := [.int p1]) (st := []) 1 rfl (Or.inl ⟨rfl, rfl⟩) rfl rfl (Nat.le_of_ble_eq_true rfl) (Nat.le_of_ble_eq_true rfl) (g_Ledger_has hv5) (f_Ledger_has sp (d + 2) N S1 q3 p1 _ hv5) ?_
      refine pE_br (v5 = 0) rfl rfl (fun c9 => ?_) (fun c9 => ?_)
      · rw [if_pos c9] at h
        refine pE_weak [none, none, none, none, none, none] trivial ?_
        exact f_BP_read_29 sp d N S4 _ h
      · rw [if_neg c9] at h
        refine pE_jump 1 (pc' := 26) (ls' := [some (.ref a), some (.int p0), some (.int p1), some (.int p2), some (.int p3), some (.ref q2)]) (st' := [.int p3]) (fun _ => rfl) ?_
        refine pE_br (0 ≤ p3) rfl rfl (fun c8 => ?_) (fun c8 => ?_)
        · rw [if_pos c8] at h
          refine pE_jump 4 (pc' := 37) (ls' := [some (.ref a), some (.int p0), some (.int p1), some (.int p2), some (.int p3), some (.ref q2)]) (st' := [.int p3, .int p2, .int p1, .ref q2]) (fun _ => rfl) ?_
          obtain ⟨⟨v7, S6⟩, hv7, h⟩ := obind h
          try dsimp only at h
          refine pE_iv (Bs := [.int p1, .int p2, .int p3]) (st := []) 1 rfl (Or.inl ⟨rfl, rfl⟩) rfl rfl (Nat.le_of_ble_eq_true rfl) (Nat.le_of_ble_eq_true rfl) (g_Plan_addReading hv7) (f_Plan_addReading sp d N S4 q2 p1 p2 p3 _ hv7) ?_
          cases h
          exact pE_ret rfl rfl rfl
        · rw [if_neg c8] at h
          refine pE_weak [none, none, none, none, none, none] trivial ?_
          exact f_BP_read_29 sp d N S4 _ h
def F_Plan_dropReading (N : Nat) (S : pm_S) (a : Nat) : Option (Int32 × pm_S) :=
    if rcv S a 4 = true then
    ((oR S a 4 9).bind fun oq1 => match oq1 with
    | none => none
    | some q1 =>
    (F_Ledger_size N S q1).bind fun (v3, S2) =>
    if v3 = 0 then
    some ((-1), S2)
    else
    ((oR S2 a 4 9).bind fun oq4 => match oq4 with
    | none => none
    | some q4 =>
    (oR S2 a 4 9).bind fun oq8 => match oq8 with
    | none => none
    | some q8 =>
    (F_Ledger_size N S2 q8).bind fun (v10, S9) =>
    (F_Ledger_dropTo N S9 q4 (v10 - 1)).bind fun S11 =>
    (oR S11 a 4 11).bind fun oq12 => match oq12 with
    | none => none
    | some q12 =>
    (F_Sheet_forgetFits N S11 q12).bind fun S13 =>
    (oR S13 a 4 9).bind fun oq14 => match oq14 with
    | none => none
    | some q14 =>
    (F_Ledger_size N S13 q14).bind fun (v16, S15) =>
    some (v16, S15)))
    else none
theorem g_Plan_dropReading {N : Nat} {S : pm_S} {a : Nat} {r : (Int32 × pm_S)} (h : F_Plan_dropReading N S a = some r) : rcv S a 4 = true := by
  unfold F_Plan_dropReading at h
  by_cases c : rcv S a 4 = true
  · exact c
  · rw [if_neg c] at h; cases h
set_option maxHeartbeats 4000000 in
set_option maxRecDepth 20000 in
theorem f_Plan_dropReading (sp : pm_I → List Value → pm_S → pm_O → Prop) (d N : Nat) (S : pm_S) (a : Nat) (r : (Int32 × pm_S)) (h : F_Plan_dropReading N S a = some r) : pm_rel pG sp (d + 2) mi_Plan_dropReading [.ref a] S (some (.int r.1), r.2) := by
  have hg := g_Plan_dropReading h
  unfold F_Plan_dropReading at h
  rw [if_pos hg] at h
  refine pE_rel (d := d + 1) ?_
  show pmE pG _ mi_Plan_dropReading 0 [some (.ref a)] [] S _
  refine pE_jump 1 (pc' := 1) (ls' := [some (.ref a)]) (st' := [.ref a]) (fun _ => rfl) ?_
  obtain ⟨oq1, hq1, h⟩ := obind h
  cases oq1 with
  | none => cases h
  | some q1 =>
    try dsimp only at h
    refine pE_gfS rfl rfl hq1 ?_
    obtain ⟨⟨v3, S2⟩, hv3, h⟩ := obind h
    try dsimp only at h
    refine pE_iv (Bs := []) (st := []) 1 rfl (Or.inl ⟨rfl, rfl⟩) rfl rfl (Nat.le_of_ble_eq_true rfl) (Nat.le_of_ble_eq_true rfl) (g_Ledger_size hv3) (f_Ledger_size sp d N S q1 _ hv3) ?_
    refine pE_br (¬ v3 = 0) rfl rfl (fun c17 => ?_) (fun c17 => ?_)
    · rw [if_neg c17] at h
      refine pE_jump 1 (pc' := 13) (ls' := [some (.ref a)]) (st' := [.ref a]) (fun _ => rfl) ?_
      obtain ⟨oq4, hq4, h⟩ := obind h
      cases oq4 with
      | none => cases h
      | some q4 =>
        try dsimp only at h
        refine pE_gfS rfl rfl hq4 ?_
        refine pE_jump 1 (pc' := 17) (ls' := [some (.ref a)]) (st' := [.ref a, .ref q4]) (fun _ => rfl) ?_
        obtain ⟨oq8, hq8, h⟩ := obind h
        cases oq8 with
        | none => cases h
        | some q8 =>
          try dsimp only at h
          refine pE_gfS rfl rfl hq8 ?_
          obtain ⟨⟨v10, S9⟩, hv10, h⟩ := obind h
          try dsimp only at h
          refine pE_iv (Bs := []) (st := [.ref q4]) 1 rfl (Or.inl ⟨rfl, rfl⟩) rfl rfl (Nat.le_of_ble_eq_true rfl) (Nat.le_of_ble_eq_true rfl) (g_Ledger_size hv10) (f_Ledger_size sp d N S2 q8 _ hv10) ?_
          refine pE_jump 2 (pc' := 25) (ls' := [some (.ref a)]) (st' := [.int (v10 - 1), .ref q4]) (fun _ => rfl) ?_
          obtain ⟨S11, hS11, h⟩ := obind h
          refine pE_iv (Bs := [.int (v10 - 1)]) (st := []) 1 rfl (Or.inl ⟨rfl, rfl⟩) rfl rfl (Nat.le_of_ble_eq_true rfl) (Nat.le_of_ble_eq_true rfl) (g_Ledger_dropTo hS11) (f_Ledger_dropTo sp d N S9 q4 (v10 - 1) _ hS11) ?_
          refine pE_jump 1 (pc' := 29) (ls' := [some (.ref a)]) (st' := [.ref a]) (fun _ => rfl) ?_
          obtain ⟨oq12, hq12, h⟩ := obind h
          cases oq12 with
          | none => cases h
          | some q12 =>
            try dsimp only at h
            refine pE_gfS rfl rfl hq12 ?_
            obtain ⟨S13, hS13, h⟩ := obind h
            refine pE_iv (Bs := []) (st := []) 1 rfl (Or.inl ⟨rfl, rfl⟩) rfl rfl (Nat.le_of_ble_eq_true rfl) (Nat.le_of_ble_eq_true rfl) (g_Sheet_forgetFits hS13) (f_Sheet_forgetFits sp d N S11 q12 _ hS13) ?_
            refine pE_jump 1 (pc' := 36) (ls' := [some (.ref a)]) (st' := [.ref a]) (fun _ => rfl) ?_
            obtain ⟨oq14, hq14, h⟩ := obind h
            cases oq14 with
            | none => cases h
            | some q14 =>
              try dsimp only at h
              refine pE_gfS rfl rfl hq14 ?_
              obtain ⟨⟨v16, S15⟩, hv16, h⟩ := obind h
              try dsimp only at h
              refine pE_iv (Bs := []) (st := []) 1 rfl (Or.inl ⟨rfl, rfl⟩) rfl rfl (Nat.le_of_ble_eq_true rfl) (Nat.le_of_ble_eq_true rfl) (g_Ledger_size hv16) (f_Ledger_size sp d N S13 q14 _ hv16) ?_
              cases h
              exact pE_ret rfl rfl rfl
    · have c17 := Decidable.not_not.mp c17
      rw [if_pos c17] at h
      refine pE_jump 1 (pc' := 11) (ls' := [some (.ref a)]) (st' := [.int (-1)]) (fun _ => rfl) ?_
      cases h
      exact pE_ret rfl rfl rfl
def F_BP_unread_18 (N : Nat)  (t0 : Int32) (S : pm_S) : Option (Int32 × pm_S) :=
    some (t0, S)
set_option maxHeartbeats 4000000 in
set_option maxRecDepth 20000 in
theorem f_BP_unread_18 (sp : pm_I → List Value → pm_S → pm_O → Prop) (d N : Nat)  (t0 : Int32) (S : pm_S)  (r : (Int32 × pm_S)) (h : F_BP_unread_18 N  t0 S = some r) : pmE pG (pm_rel pG sp (d + 2)) mi_BP_unread 18 [none, none, none] [.int t0] S (some (.int r.1), r.2) := by
  unfold F_BP_unread_18 at h
  cases h
  exact pE_ret rfl rfl rfl
def F_BP_unread (N : Nat) (S : pm_S) (a : Nat) (p0 : Int32) : Option (Int32 × pm_S) :=
    if rcv S a 10 = true then
    ((F_BP_planAt N S a p0).bind fun (oq2, S1) => match oq2 with
    | none => F_BP_unread_18 N (-1) S1
    | some q2 =>
    (F_Plan_dropReading N S1 q2).bind fun (v4, S3) =>
    F_BP_unread_18 N v4 S3)
    else none
theorem g_BP_unread {N : Nat} {S : pm_S} {a : Nat} {p0 : Int32} {r : (Int32 × pm_S)} (h : F_BP_unread N S a p0 = some r) : rcv S a 10 = true := by
  unfold F_BP_unread at h
  by_cases c : rcv S a 10 = true
  · exact c
  · rw [if_neg c] at h; cases h
set_option maxHeartbeats 4000000 in
set_option maxRecDepth 20000 in
theorem f_BP_unread (sp : pm_I → List Value → pm_S → pm_O → Prop) (d N : Nat) (S : pm_S) (a : Nat) (p0 : Int32) (r : (Int32 × pm_S)) (h : F_BP_unread N S a p0 = some r) : pm_rel pG sp (d + 3) mi_BP_unread [.ref a, .int p0] S (some (.int r.1), r.2) := by
  have hg := g_BP_unread h
  unfold F_BP_unread at h
  rw [if_pos hg] at h
  refine pE_rel (d := d + 2) ?_
  show pmE pG _ mi_BP_unread 0 [some (.ref a), some (.int p0), none] [] S _
  refine pE_jump 2 (pc' := 2) (ls' := [some (.ref a), some (.int p0), none]) (st' := [.int p0, .ref a]) (fun _ => rfl) ?_
  obtain ⟨⟨oq2, S1⟩, hq2, h⟩ := obind h
  try dsimp only at h
  cases oq2 with
  | none =>
    try dsimp only at h
    refine pE_iv (Bs := [.int p0]) (st := []) 1 rfl (Or.inl ⟨rfl, rfl⟩) rfl rfl (Nat.le_of_ble_eq_true rfl) (Nat.le_of_ble_eq_true rfl) (g_BP_planAt hq2) (f_BP_planAt sp (d + 1) N S a p0 _ hq2) ?_
    refine pE_jump 5 (pc' := 18) (ls' := [some (.ref a), some (.int p0), some (.null)]) (st' := [.int (-1)]) (fun _ => rfl) ?_
    refine pE_weak [none, none, none] trivial ?_
    exact f_BP_unread_18 sp d N (-1) S1 _ h
  | some q2 =>
    try dsimp only at h
    refine pE_iv (Bs := [.int p0]) (st := []) 1 rfl (Or.inl ⟨rfl, rfl⟩) rfl rfl (Nat.le_of_ble_eq_true rfl) (Nat.le_of_ble_eq_true rfl) (g_BP_planAt hq2) (f_BP_planAt sp (d + 1) N S a p0 _ hq2) ?_
    refine pE_jump 4 (pc' := 15) (ls' := [some (.ref a), some (.int p0), some (.ref q2)]) (st' := [.ref q2]) (fun _ => rfl) ?_
    obtain ⟨⟨v4, S3⟩, hv4, h⟩ := obind h
    try dsimp only at h
    refine pE_iv (Bs := []) (st := []) 1 rfl (Or.inl ⟨rfl, rfl⟩) rfl rfl (Nat.le_of_ble_eq_true rfl) (Nat.le_of_ble_eq_true rfl) (g_Plan_dropReading hv4) (f_Plan_dropReading sp d N S1 q2 _ hv4) ?_
    refine pE_weak [none, none, none] trivial ?_
    exact f_BP_unread_18 sp d N v4 S3 _ h
def F_Sheet_columnOf_12 (N : Nat)  (t0 : Int32) (t1 : Int32) (S : pm_S) : Option (Int32 × pm_S) :=
    some (t1 + t0, S)
set_option maxHeartbeats 4000000 in
set_option maxRecDepth 20000 in
theorem f_Sheet_columnOf_12 (sp : pm_I → List Value → pm_S → pm_O → Prop) (d N : Nat)  (t0 : Int32) (t1 : Int32) (S : pm_S)  (r : (Int32 × pm_S)) (h : F_Sheet_columnOf_12 N  t0 t1 S = some r) : pmE pG (pm_rel pG sp (d + 0)) mi_Sheet_columnOf 12 [none, none] [.int t0, .int t1] S (some (.int r.1), r.2) := by
  unfold F_Sheet_columnOf_12 at h
  refine pE_jump 1 (pc' := 13) (ls' := [none, none]) (st' := [.int (t1 + t0)]) (fun _ => rfl) ?_
  cases h
  exact pE_ret rfl rfl rfl
def F_Sheet_columnOf (N : Nat) (S : pm_S) (p0 : Int32) (p1 : Int32) : Option (Int32 × pm_S) :=
    if p1 = 0 then
    F_Sheet_columnOf_12 N 0 (2 * p0) S
    else
    F_Sheet_columnOf_12 N 1 (2 * p0) S
set_option maxHeartbeats 4000000 in
set_option maxRecDepth 20000 in
theorem f_Sheet_columnOf (sp : pm_I → List Value → pm_S → pm_O → Prop) (d N : Nat) (S : pm_S) (p0 : Int32) (p1 : Int32) (r : (Int32 × pm_S)) (h : F_Sheet_columnOf N S p0 p1 = some r) : pm_rel pG sp (d + 1) mi_Sheet_columnOf [.int p0, .int p1] S (some (.int r.1), r.2) := by
  unfold F_Sheet_columnOf at h
  refine pE_rel (d := d + 0) ?_
  show pmE pG _ mi_Sheet_columnOf 0 [some (.int p0), some (.int p1)] [] S _
  refine pE_jump 4 (pc' := 4) (ls' := [some (.int p0), some (.int p1)]) (st' := [.int p1, .int (2 * p0)]) (fun _ => rfl) ?_
  refine pE_br (p1 = 0) rfl rfl (fun c1 => ?_) (fun c1 => ?_)
  · rw [if_pos c1] at h
    refine pE_jump 1 (pc' := 12) (ls' := [some (.int p0), some (.int p1)]) (st' := [.int 0, .int (2 * p0)]) (fun _ => rfl) ?_
    refine pE_weak [none, none] trivial ?_
    exact f_Sheet_columnOf_12 sp d N 0 (2 * p0) S _ h
  · rw [if_neg c1] at h
    refine pE_jump 2 (pc' := 12) (ls' := [some (.int p0), some (.int p1)]) (st' := [.int 1, .int (2 * p0)]) (fun _ => rfl) ?_
    refine pE_weak [none, none] trivial ?_
    exact f_Sheet_columnOf_12 sp d N 1 (2 * p0) S _ h
def F_Bench_columnOfReading_27 (N : Nat)  (t0 : Int32) (t1 : Int32) (S : pm_S) : Option (Int32 × pm_S) :=
    (F_Sheet_columnOf N S t1 t0).bind fun (v8, S7) =>
    some (v8, S7)
set_option maxHeartbeats 4000000 in
set_option maxRecDepth 20000 in
theorem f_Bench_columnOfReading_27 (sp : pm_I → List Value → pm_S → pm_O → Prop) (d N : Nat)  (t0 : Int32) (t1 : Int32) (S : pm_S)  (r : (Int32 × pm_S)) (h : F_Bench_columnOfReading_27 N  t0 t1 S = some r) : pmE pG (pm_rel pG sp (d + 1)) mi_Bench_columnOfReading 27 [none, none, none] [.int t0, .int t1] S (some (.int r.1), r.2) := by
  unfold F_Bench_columnOfReading_27 at h
  obtain ⟨⟨v8, S7⟩, hv8, h⟩ := obind h
  try dsimp only at h
  refine pE_is (Bs := [.int t1, .int t0]) (st := []) rfl rfl rfl (Nat.le_of_ble_eq_true rfl) (Nat.le_of_ble_eq_true rfl) (f_Sheet_columnOf sp d N S t1 t0 _ hv8) ?_
  cases h
  exact pE_ret rfl rfl rfl
def F_Bench_columnOfReading (N : Nat) (S : pm_S) (a : Nat) (p0 : Nat) (p1 : Int32) : Option (Int32 × pm_S) :=
    if rcv S a 0 = true then
    ((oR S p0 4 9).bind fun oq1 => match oq1 with
    | none => none
    | some q1 =>
    (F_Ledger_at N S q1 p1 0).bind fun (v3, S2) =>
    (oR S2 p0 4 9).bind fun oq4 => match oq4 with
    | none => none
    | some q4 =>
    (F_Ledger_at N S2 q4 p1 1).bind fun (v6, S5) =>
    if v6 = 1 then
    F_Bench_columnOfReading_27 N 1 v3 S5
    else
    F_Bench_columnOfReading_27 N 0 v3 S5)
    else none
theorem g_Bench_columnOfReading {N : Nat} {S : pm_S} {a : Nat} {p0 : Nat} {p1 : Int32} {r : (Int32 × pm_S)} (h : F_Bench_columnOfReading N S a p0 p1 = some r) : rcv S a 0 = true := by
  unfold F_Bench_columnOfReading at h
  by_cases c : rcv S a 0 = true
  · exact c
  · rw [if_neg c] at h; cases h
set_option maxHeartbeats 4000000 in
set_option maxRecDepth 20000 in
theorem f_Bench_columnOfReading (sp : pm_I → List Value → pm_S → pm_O → Prop) (d N : Nat) (S : pm_S) (a : Nat) (p0 : Nat) (p1 : Int32) (r : (Int32 × pm_S)) (h : F_Bench_columnOfReading N S a p0 p1 = some r) : pm_rel pG sp (d + 2) mi_Bench_columnOfReading [.ref a, .ref p0, .int p1] S (some (.int r.1), r.2) := by
  have hg := g_Bench_columnOfReading h
  unfold F_Bench_columnOfReading at h
  rw [if_pos hg] at h
  refine pE_rel (d := d + 1) ?_
  show pmE pG _ mi_Bench_columnOfReading 0 [some (.ref a), some (.ref p0), some (.int p1)] [] S _
  refine pE_jump 1 (pc' := 1) (ls' := [some (.ref a), some (.ref p0), some (.int p1)]) (st' := [.ref p0]) (fun _ => rfl) ?_
  obtain ⟨oq1, hq1, h⟩ := obind h
  cases oq1 with
  | none => cases h
  | some q1 =>
    try dsimp only at h
    refine pE_gfS rfl rfl hq1 ?_
    refine pE_jump 2 (pc' := 6) (ls' := [some (.ref a), some (.ref p0), some (.int p1)]) (st' := [.int 0, .int p1, .ref q1]) (fun _ => rfl) ?_
    obtain ⟨⟨v3, S2⟩, hv3, h⟩ := obind h
    try dsimp only at h
    refine pE_iv (Bs := [.int p1, .int 0]) (st := []) 1 rfl (Or.inl ⟨rfl, rfl⟩) rfl rfl (Nat.le_of_ble_eq_true rfl) (Nat.le_of_ble_eq_true rfl) (g_Ledger_at hv3) (f_Ledger_at sp d N S q1 p1 0 _ hv3) ?_
    refine pE_jump 1 (pc' := 10) (ls' := [some (.ref a), some (.ref p0), some (.int p1)]) (st' := [.ref p0, .int v3]) (fun _ => rfl) ?_
    obtain ⟨oq4, hq4, h⟩ := obind h
    cases oq4 with
    | none => cases h
    | some q4 =>
      try dsimp only at h
      refine pE_gfS rfl rfl hq4 ?_
      refine pE_jump 2 (pc' := 15) (ls' := [some (.ref a), some (.ref p0), some (.int p1)]) (st' := [.int 1, .int p1, .ref q4, .int v3]) (fun _ => rfl) ?_
      obtain ⟨⟨v6, S5⟩, hv6, h⟩ := obind h
      try dsimp only at h
      refine pE_iv (Bs := [.int p1, .int 1]) (st := [.int v3]) 1 rfl (Or.inl ⟨rfl, rfl⟩) rfl rfl (Nat.le_of_ble_eq_true rfl) (Nat.le_of_ble_eq_true rfl) (g_Ledger_at hv6) (f_Ledger_at sp d N S2 q4 p1 1 _ hv6) ?_
      refine pE_jump 1 (pc' := 19) (ls' := [some (.ref a), some (.ref p0), some (.int p1)]) (st' := [.int 1, .int v6, .int v3]) (fun _ => rfl) ?_
      refine pE_br (¬ v6 = 1) rfl rfl (fun c9 => ?_) (fun c9 => ?_)
      · rw [if_neg c9] at h
        refine pE_jump 1 (pc' := 27) (ls' := [some (.ref a), some (.ref p0), some (.int p1)]) (st' := [.int 0, .int v3]) (fun _ => rfl) ?_
        refine pE_weak [none, none, none] trivial ?_
        exact f_Bench_columnOfReading_27 sp d N 0 v3 S5 _ h
      · have c9 := Decidable.not_not.mp c9
        rw [if_pos c9] at h
        refine pE_jump 2 (pc' := 27) (ls' := [some (.ref a), some (.ref p0), some (.int p1)]) (st' := [.int 1, .int v3]) (fun _ => rfl) ?_
        refine pE_weak [none, none, none] trivial ?_
        exact f_Bench_columnOfReading_27 sp d N 1 v3 S5 _ h
def F_Bench_columnsRead_32 (N : Nat)  (x2 : Int32) (S : pm_S) : Option (Int32 × pm_S) :=
    some (x2, S)
set_option maxHeartbeats 4000000 in
set_option maxRecDepth 20000 in
theorem f_Bench_columnsRead_32 (sp : pm_I → List Value → pm_S → pm_O → Prop) (d N : Nat)  (x2 : Int32) (S : pm_S)  (r : (Int32 × pm_S)) (h : F_Bench_columnsRead_32 N  x2 S = some r) : pmE pG (pm_rel pG sp (d + 2)) mi_Bench_columnsRead 32 [none, none, some (.int x2), none] [] S (some (.int r.1), r.2) := by
  unfold F_Bench_columnsRead_32 at h
  refine pE_jump 1 (pc' := 33) (ls' := [none, none, some (.int x2), none]) (st' := [.int x2]) (fun _ => rfl) ?_
  cases h
  exact pE_ret rfl rfl rfl
def B_Bench_columnsRead_4 (N : Nat)  (rec4 : Int32 → Int32 → pm_S → Option (Int32 × pm_S)) (x0 : Nat) (x1 : Nat) (x2 : Int32) (x3 : Int32) (S : pm_S) : Option (Int32 × pm_S) :=
    (oR S x1 4 9).bind fun oq1 => match oq1 with
    | none => none
    | some q1 =>
    (F_Ledger_size N S q1).bind fun (v3, S2) =>
    if v3 ≤ x3 then
    F_Bench_columnsRead_32 N x2 S2
    else
    ((F_Bench_columnOfReading N S2 x0 x1 x3).bind fun (v5, S4) =>
    rec4 (x2 ||| (1 <<< (v5 &&& 31))) (x3 + 1) S4)
def F_Bench_columnsRead_4 (N : Nat)  (x0 : Nat) (x1 : Nat) : Nat → Int32 → Int32 → pm_S → Option (Int32 × pm_S)
  | 0 => fun _ _ _ => none
  | n + 1 => fun x2 x3 S => B_Bench_columnsRead_4 N  (F_Bench_columnsRead_4 N  x0 x1 n) x0 x1 x2 x3 S
set_option maxHeartbeats 4000000 in
set_option maxRecDepth 20000 in
theorem f_Bench_columnsRead_4 (sp : pm_I → List Value → pm_S → pm_O → Prop) (d N : Nat)  (x0 : Nat) (x1 : Nat)  : ∀ (n : Nat) (x2 : Int32) (x3 : Int32) (S : pm_S) (r : (Int32 × pm_S)), F_Bench_columnsRead_4 N  x0 x1 n x2 x3 S = some r → pmE pG (pm_rel pG sp (d + 2)) mi_Bench_columnsRead 4 [some (.ref x0), some (.ref x1), some (.int x2), some (.int x3)] [] S (some (.int r.1), r.2) := by
  intro n
  induction n with
  | zero =>
    intro x2 x3 S r h
    cases h
  | succ n ih =>
    intro x2 x3 S r h
    replace h : B_Bench_columnsRead_4 N  (F_Bench_columnsRead_4 N  x0 x1 n) x0 x1 x2 x3 S = some r := h
    have hrec4 := ih
    generalize F_Bench_columnsRead_4 N  x0 x1 n = rec4 at h hrec4
    unfold B_Bench_columnsRead_4 at h
    refine pE_jump 2 (pc' := 6) (ls' := [some (.ref x0), some (.ref x1), some (.int x2), some (.int x3)]) (st' := [.ref x1, .int x3]) (fun _ => rfl) ?_
    obtain ⟨oq1, hq1, h⟩ := obind h
    cases oq1 with
    | none => cases h
    | some q1 =>
      try dsimp only at h
      refine pE_gfS rfl rfl hq1 ?_
      obtain ⟨⟨v3, S2⟩, hv3, h⟩ := obind h
      try dsimp only at h
      refine pE_iv (Bs := []) (st := [.int x3]) 1 rfl (Or.inl ⟨rfl, rfl⟩) rfl rfl (Nat.le_of_ble_eq_true rfl) (Nat.le_of_ble_eq_true rfl) (g_Ledger_size hv3) (f_Ledger_size sp (d + 1) N S q1 _ hv3) ?_
      refine pE_br (v3 ≤ x3) rfl rfl (fun c6 => ?_) (fun c6 => ?_)
      · rw [if_pos c6] at h
        refine pE_weak [none, none, some (.int x2), none] ⟨rfl, trivial⟩ ?_
        exact f_Bench_columnsRead_32 sp d N x2 S2 _ h
      · rw [if_neg c6] at h
        refine pE_jump 5 (pc' := 20) (ls' := [some (.ref x0), some (.ref x1), some (.int x2), some (.int x3)]) (st' := [.int x3, .ref x1, .ref x0, .int 1, .int x2]) (fun _ => rfl) ?_
        obtain ⟨⟨v5, S4⟩, hv5, h⟩ := obind h
        try dsimp only at h
        refine pE_iv (Bs := [.ref x1, .int x3]) (st := [.int 1, .int x2]) 1 rfl (Or.inl ⟨rfl, rfl⟩) rfl rfl (Nat.le_of_ble_eq_true rfl) (Nat.le_of_ble_eq_true rfl) (g_Bench_columnOfReading hv5) (f_Bench_columnOfReading sp d N S2 x0 x1 x3 _ hv5) ?_
        refine pE_jump 5 (pc' := 4) (ls' := [some (.ref x0), some (.ref x1), some (.int (x2 ||| (1 <<< (v5 &&& 31)))), some (.int (x3 + 1))]) (st' := []) (fun _ => rfl) ?_
        exact hrec4 (x2 ||| (1 <<< (v5 &&& 31))) (x3 + 1) S4 _ h
def F_Bench_columnsRead (N : Nat) (S : pm_S) (a : Nat) (p0 : Nat) : Option (Int32 × pm_S) :=
    if rcv S a 0 = true then
    (F_Bench_columnsRead_4 N a p0 N 0 0 S)
    else none
theorem g_Bench_columnsRead {N : Nat} {S : pm_S} {a : Nat} {p0 : Nat} {r : (Int32 × pm_S)} (h : F_Bench_columnsRead N S a p0 = some r) : rcv S a 0 = true := by
  unfold F_Bench_columnsRead at h
  by_cases c : rcv S a 0 = true
  · exact c
  · rw [if_neg c] at h; cases h
set_option maxHeartbeats 4000000 in
set_option maxRecDepth 20000 in
theorem f_Bench_columnsRead (sp : pm_I → List Value → pm_S → pm_O → Prop) (d N : Nat) (S : pm_S) (a : Nat) (p0 : Nat) (r : (Int32 × pm_S)) (h : F_Bench_columnsRead N S a p0 = some r) : pm_rel pG sp (d + 3) mi_Bench_columnsRead [.ref a, .ref p0] S (some (.int r.1), r.2) := by
  have hg := g_Bench_columnsRead h
  unfold F_Bench_columnsRead at h
  rw [if_pos hg] at h
  refine pE_rel (d := d + 2) ?_
  show pmE pG _ mi_Bench_columnsRead 0 [some (.ref a), some (.ref p0), none, none] [] S _
  refine pE_jump 4 (pc' := 4) (ls' := [some (.ref a), some (.ref p0), some (.int 0), some (.int 0)]) (st' := []) (fun _ => rfl) ?_
  exact f_Bench_columnsRead_4 sp d N a p0 N 0 0 S _ h
def F_Sheet_write_13 (N : Nat)   (S : pm_S) : Option pm_S :=
    some S
set_option maxHeartbeats 4000000 in
set_option maxRecDepth 20000 in
theorem f_Sheet_write_13 (sp : pm_I → List Value → pm_S → pm_O → Prop) (d N : Nat)   (S : pm_S)  (r : pm_S) (h : F_Sheet_write_13 N   S = some r) : pmE pG (pm_rel pG sp (d + 1)) mi_Sheet_write 13 [none, none, none, none] [] S (none, r) := by
  unfold F_Sheet_write_13 at h
  cases h
  exact pE_ret rfl rfl rfl
def F_Sheet_write_34 (N : Nat)  (x0 : Nat) (x1 : Int32) (x2 : Int32) (x3 : Int32) (S : pm_S) : Option pm_S :=
    (oR S x0 5 0).bind fun oq11 => match oq11 with
    | none => none
    | some q11 =>
    (aQ S q11 x1).bind fun oq12 => match oq12 with
    | none => none
    | some q12 =>
    (F_BP_setAt N S q12 x2 x3).bind fun S13 =>
    some S13
set_option maxHeartbeats 4000000 in
set_option maxRecDepth 20000 in
theorem f_Sheet_write_34 (sp : pm_I → List Value → pm_S → pm_O → Prop) (d N : Nat)  (x0 : Nat) (x1 : Int32) (x2 : Int32) (x3 : Int32) (S : pm_S)  (r : pm_S) (h : F_Sheet_write_34 N  x0 x1 x2 x3 S = some r) : pmE pG (pm_rel pG sp (d + 1)) mi_Sheet_write 34 [some (.ref x0), some (.int x1), some (.int x2), some (.int x3)] [] S (none, r) := by
  unfold F_Sheet_write_34 at h
  refine pE_jump 1 (pc' := 35) (ls' := [some (.ref x0), some (.int x1), some (.int x2), some (.int x3)]) (st' := [.ref x0]) (fun _ => rfl) ?_
  obtain ⟨oq11, hq11, h⟩ := obind h
  cases oq11 with
  | none => cases h
  | some q11 =>
    try dsimp only at h
    refine pE_gfS rfl rfl hq11 ?_
    refine pE_jump 1 (pc' := 39) (ls' := [some (.ref x0), some (.int x1), some (.int x2), some (.int x3)]) (st' := [.int x1, .ref q11]) (fun _ => rfl) ?_
    obtain ⟨oq12, hq12, h⟩ := obind h
    cases oq12 with
    | none => cases h
    | some q12 =>
      try dsimp only at h
      refine pE_aQS rfl hq12 ?_
      refine pE_jump 2 (pc' := 42) (ls' := [some (.ref x0), some (.int x1), some (.int x2), some (.int x3)]) (st' := [.int x3, .int x2, .ref q12]) (fun _ => rfl) ?_
      obtain ⟨S13, hS13, h⟩ := obind h
      refine pE_is (Bs := [.ref q12, .int x2, .int x3]) (st := []) rfl rfl rfl (Nat.le_of_ble_eq_true rfl) (Nat.le_of_ble_eq_true rfl) (f_BP_setAt sp d N S q12 x2 x3 _ hS13) ?_
      cases h
      exact pE_ret rfl rfl rfl
def F_Sheet_write (N : Nat) (S : pm_S) (a : Nat) (p0 : Int32) (p1 : Int32) (p2 : Int32) : Option pm_S :=
    if rcv S a 5 = true then
    (if p0 < 0 then
    F_Sheet_write_13 N S
    else
    ((oR S a 5 0).bind fun oq1 => match oq1 with
    | none => none
    | some q1 =>
    (aNS S q1).bind fun v2 =>
    if p0 < v2 then
    ((oR S a 5 0).bind fun oq3 => match oq3 with
    | none => none
    | some q3 =>
    (aQ S q3 p0).bind fun oq4 => match oq4 with
    | none => ((oR S a 5 0).bind fun oq5 => match oq5 with
    | none => ((nA S 0 1024).bind fun (q6, S7) =>
    none)
    | some q5 =>
    (nA S 0 1024).bind fun (q8, S9) =>
    (sQ S9 q5 p0 q8).bind fun S10 =>
    F_Sheet_write_34 N a p0 p1 p2 S10)
    | some q4 =>
    F_Sheet_write_34 N a p0 p1 p2 S)
    else
    F_Sheet_write_13 N S))
    else none
theorem g_Sheet_write {N : Nat} {S : pm_S} {a : Nat} {p0 : Int32} {p1 : Int32} {p2 : Int32} {r : pm_S} (h : F_Sheet_write N S a p0 p1 p2 = some r) : rcv S a 5 = true := by
  unfold F_Sheet_write at h
  by_cases c : rcv S a 5 = true
  · exact c
  · rw [if_neg c] at h; cases h
set_option maxHeartbeats 4000000 in
set_option maxRecDepth 20000 in
theorem f_Sheet_write (sp : pm_I → List Value → pm_S → pm_O → Prop) (d N : Nat) (S : pm_S) (a : Nat) (p0 : Int32) (p1 : Int32) (p2 : Int32) (r : pm_S) (h : F_Sheet_write N S a p0 p1 p2 = some r) : pm_rel pG sp (d + 2) mi_Sheet_write [.ref a, .int p0, .int p1, .int p2] S (none, r) := by
  have hg := g_Sheet_write h
  unfold F_Sheet_write at h
  rw [if_pos hg] at h
  refine pE_rel (d := d + 1) ?_
  show pmE pG _ mi_Sheet_write 0 [some (.ref a), some (.int p0), some (.int p1), some (.int p2)] [] S _
  refine pE_jump 1 (pc' := 1) (ls' := [some (.ref a), some (.int p0), some (.int p1), some (.int p2)]) (st' := [.int p0]) (fun _ => rfl) ?_
  refine pE_br (p0 < 0) rfl rfl (fun c15 => ?_) (fun c15 => ?_)
  · rw [if_pos c15] at h
    refine pE_weak [none, none, none, none] trivial ?_
    exact f_Sheet_write_13 sp d N S _ h
  · rw [if_neg c15] at h
    refine pE_jump 2 (pc' := 6) (ls' := [some (.ref a), some (.int p0), some (.int p1), some (.int p2)]) (st' := [.ref a, .int p0]) (fun _ => rfl) ?_
    obtain ⟨oq1, hq1, h⟩ := obind h
    cases oq1 with
    | none => cases h
    | some q1 =>
      try dsimp only at h
      refine pE_gfS rfl rfl hq1 ?_
      obtain ⟨v2, hv2, h⟩ := obind h
      refine pE_aN rfl hv2 ?_
      refine pE_br (p0 < v2) rfl rfl (fun c14 => ?_) (fun c14 => ?_)
      · rw [if_pos c14] at h
        refine pE_jump 1 (pc' := 15) (ls' := [some (.ref a), some (.int p0), some (.int p1), some (.int p2)]) (st' := [.ref a]) (fun _ => rfl) ?_
        obtain ⟨oq3, hq3, h⟩ := obind h
        cases oq3 with
        | none => cases h
        | some q3 =>
          try dsimp only at h
          refine pE_gfS rfl rfl hq3 ?_
          refine pE_jump 1 (pc' := 19) (ls' := [some (.ref a), some (.int p0), some (.int p1), some (.int p2)]) (st' := [.int p0, .ref q3]) (fun _ => rfl) ?_
          obtain ⟨oq4, hq4, h⟩ := obind h
          cases oq4 with
          | none =>
            try dsimp only at h
            refine pE_aQN rfl hq4 ?_
            refine pE_jump 2 (pc' := 24) (ls' := [some (.ref a), some (.int p0), some (.int p1), some (.int p2)]) (st' := [.ref a]) (fun _ => rfl) ?_
            obtain ⟨oq5, hq5, h⟩ := obind h
            cases oq5 with
            | none =>
              try dsimp only at h
              refine pE_gfN rfl rfl hq5 ?_
              refine pE_jump 2 (pc' := 31) (ls' := [some (.ref a), some (.int p0), some (.int p1), some (.int p2)]) (st' := [.int 1024, .int p0, .null]) (fun _ => rfl) ?_
              obtain ⟨⟨q6, S7⟩, hq6, h⟩ := obind h
              refine pE_nA rfl rfl hq6 ?_
              try dsimp only at h
              cases h
            | some q5 =>
              try dsimp only at h
              refine pE_gfS rfl rfl hq5 ?_
              refine pE_jump 2 (pc' := 31) (ls' := [some (.ref a), some (.int p0), some (.int p1), some (.int p2)]) (st' := [.int 1024, .int p0, .ref q5]) (fun _ => rfl) ?_
              obtain ⟨⟨q8, S9⟩, hq8, h⟩ := obind h
              refine pE_nA rfl rfl hq8 ?_
              try dsimp only at h
              obtain ⟨S10, hS10, h⟩ := obind h
              refine pE_sQ rfl hS10 ?_
              exact f_Sheet_write_34 sp d N a p0 p1 p2 S10 _ h
          | some q4 =>
            try dsimp only at h
            refine pE_aQS rfl hq4 ?_
            refine pE_jump 1 (pc' := 34) (ls' := [some (.ref a), some (.int p0), some (.int p1), some (.int p2)]) (st' := []) (fun _ => rfl) ?_
            exact f_Sheet_write_34 sp d N a p0 p1 p2 S _ h
      · rw [if_neg c14] at h
        refine pE_weak [none, none, none, none] trivial ?_
        exact f_Sheet_write_13 sp d N S _ h
def F_Bench_fill_103 (N : Nat)  (x1 : Nat) (x3 : Int32) (S : pm_S) : Option pm_S :=
    (oR S x1 4 11).bind fun oq5 => match oq5 with
    | none => none
    | some q5 =>
    (oI S q5 5 2).bind fun v6 =>
    (wF S q5 5 2 .int (.int (v6 ||| x3))).bind fun S7 =>
    some S7
set_option maxHeartbeats 4000000 in
set_option maxRecDepth 20000 in
theorem f_Bench_fill_103 (sp : pm_I → List Value → pm_S → pm_O → Prop) (d N : Nat)  (x1 : Nat) (x3 : Int32) (S : pm_S)  (r : pm_S) (h : F_Bench_fill_103 N  x1 x3 S = some r) : pmE pG (pm_rel pG sp (d + 5)) mi_Bench_fill 103 [none, some (.ref x1), none, some (.int x3), none, none] [] S (none, r) := by
  unfold F_Bench_fill_103 at h
  refine pE_jump 1 (pc' := 104) (ls' := [none, some (.ref x1), none, some (.int x3), none, none]) (st' := [.ref x1]) (fun _ => rfl) ?_
  obtain ⟨oq5, hq5, h⟩ := obind h
  cases oq5 with
  | none => cases h
  | some q5 =>
    try dsimp only at h
    refine pE_gfS rfl rfl hq5 ?_
    refine pE_jump 1 (pc' := 108) (ls' := [none, some (.ref x1), none, some (.int x3), none, none]) (st' := [.ref q5, .ref q5]) (fun _ => rfl) ?_
    obtain ⟨v6, hv6, h⟩ := obind h
    refine pE_gfI rfl rfl hv6 ?_
    refine pE_jump 2 (pc' := 113) (ls' := [none, some (.ref x1), none, some (.int x3), none, none]) (st' := [.int (v6 ||| x3), .ref q5]) (fun _ => rfl) ?_
    obtain ⟨S7, hS7, h⟩ := obind h
    refine pE_pf rfl rfl rfl hS7 ?_
    cases h
    exact pE_ret rfl rfl rfl
def F_Bench_fill_97 (N : Nat) (rec20 : Int32 → pm_S → Option pm_S) (x0 : Nat) (x1 : Nat) (x3 : Int32) (x4 : Int32) (S : pm_S) : Option pm_S :=
    rec20 (x4 + 1) S
set_option maxHeartbeats 4000000 in
set_option maxRecDepth 20000 in
theorem f_Bench_fill_97 (sp : pm_I → List Value → pm_S → pm_O → Prop) (d N : Nat) (rec20 : Int32 → pm_S → Option pm_S) (x0 : Nat) (x1 : Nat) (x3 : Int32) (x4 : Int32) (S : pm_S) (hrec20 : ∀ (y1 : Int32) (U : pm_S) (r : pm_S), rec20 y1 U = some r → pmE pG (pm_rel pG sp (d + 5)) mi_Bench_fill 20 [some (.ref x0), some (.ref x1), none, some (.int x3), some (.int y1), none] [] U (none, r)) (r : pm_S) (h : F_Bench_fill_97 N rec20 x0 x1 x3 x4 S = some r) : pmE pG (pm_rel pG sp (d + 5)) mi_Bench_fill 97 [some (.ref x0), some (.ref x1), none, some (.int x3), some (.int x4), none] [] S (none, r) := by
  unfold F_Bench_fill_97 at h
  refine pE_jump 2 (pc' := 20) (ls' := [some (.ref x0), some (.ref x1), none, some (.int x3), some (.int (x4 + 1)), none]) (st' := []) (fun _ => rfl) ?_
  exact hrec20 (x4 + 1) S _ h
def F_Bench_fill_91 (N : Nat) (rec20 : Int32 → pm_S → Option pm_S) (rec42 : Int32 → pm_S → Option pm_S) (x0 : Nat) (x1 : Nat) (x3 : Int32) (x4 : Int32) (x5 : Int32) (S : pm_S) : Option pm_S :=
    rec42 (x5 + 1) S
set_option maxHeartbeats 4000000 in
set_option maxRecDepth 20000 in
theorem f_Bench_fill_91 (sp : pm_I → List Value → pm_S → pm_O → Prop) (d N : Nat) (rec20 : Int32 → pm_S → Option pm_S) (rec42 : Int32 → pm_S → Option pm_S) (x0 : Nat) (x1 : Nat) (x3 : Int32) (x4 : Int32) (x5 : Int32) (S : pm_S) (hrec20 : ∀ (y1 : Int32) (U : pm_S) (r : pm_S), rec20 y1 U = some r → pmE pG (pm_rel pG sp (d + 5)) mi_Bench_fill 20 [some (.ref x0), some (.ref x1), none, some (.int x3), some (.int y1), none] [] U (none, r)) (hrec42 : ∀ (y1 : Int32) (U : pm_S) (r : pm_S), rec42 y1 U = some r → pmE pG (pm_rel pG sp (d + 5)) mi_Bench_fill 42 [some (.ref x0), some (.ref x1), none, some (.int x3), some (.int x4), some (.int y1)] [] U (none, r)) (r : pm_S) (h : F_Bench_fill_91 N rec20 rec42 x0 x1 x3 x4 x5 S = some r) : pmE pG (pm_rel pG sp (d + 5)) mi_Bench_fill 91 [some (.ref x0), some (.ref x1), none, some (.int x3), some (.int x4), some (.int x5)] [] S (none, r) := by
  unfold F_Bench_fill_91 at h
  refine pE_jump 2 (pc' := 42) (ls' := [some (.ref x0), some (.ref x1), none, some (.int x3), some (.int x4), some (.int (x5 + 1))]) (st' := []) (fun _ => rfl) ?_
  exact hrec42 (x5 + 1) S _ h
def F_Bench_fill_85_2 (N : Nat) (rec20 : Int32 → pm_S → Option pm_S) (rec42 : Int32 → pm_S → Option pm_S) (x0 : Nat) (x1 : Nat) (x3 : Int32) (x4 : Int32) (x5 : Int32) (t0 : Int32) (t1 : Int32) (t2 : Nat) (t3 : Nat) (t4 : Int32) (t5 : Int32) (t6 : Nat) (S : pm_S) : Option pm_S :=
    (F_Bench_tell N S t3 t2 t1 t0).bind fun (v14, S13) =>
    (F_Sheet_write N S13 t6 t5 t4 v14).bind fun S15 =>
    F_Bench_fill_91 N rec20 rec42 x0 x1 x3 x4 x5 S15
set_option maxHeartbeats 4000000 in
set_option maxRecDepth 20000 in
theorem f_Bench_fill_85_2 (sp : pm_I → List Value → pm_S → pm_O → Prop) (d N : Nat) (rec20 : Int32 → pm_S → Option pm_S) (rec42 : Int32 → pm_S → Option pm_S) (x0 : Nat) (x1 : Nat) (x3 : Int32) (x4 : Int32) (x5 : Int32) (t0 : Int32) (t1 : Int32) (t2 : Nat) (t3 : Nat) (t4 : Int32) (t5 : Int32) (t6 : Nat) (S : pm_S) (hrec20 : ∀ (y1 : Int32) (U : pm_S) (r : pm_S), rec20 y1 U = some r → pmE pG (pm_rel pG sp (d + 5)) mi_Bench_fill 20 [some (.ref x0), some (.ref x1), none, some (.int x3), some (.int y1), none] [] U (none, r)) (hrec42 : ∀ (y1 : Int32) (U : pm_S) (r : pm_S), rec42 y1 U = some r → pmE pG (pm_rel pG sp (d + 5)) mi_Bench_fill 42 [some (.ref x0), some (.ref x1), none, some (.int x3), some (.int x4), some (.int y1)] [] U (none, r)) (r : pm_S) (h : F_Bench_fill_85_2 N rec20 rec42 x0 x1 x3 x4 x5 t0 t1 t2 t3 t4 t5 t6 S = some r) : pmE pG (pm_rel pG sp (d + 5)) mi_Bench_fill 85 [some (.ref x0), some (.ref x1), none, some (.int x3), some (.int x4), some (.int x5)] [.int t0, .int t1, .ref t2, .ref t3, .int t4, .int t5, .ref t6] S (none, r) := by
  unfold F_Bench_fill_85_2 at h
  obtain ⟨⟨v14, S13⟩, hv14, h⟩ := obind h
  try dsimp only at h
  refine pE_iv (Bs := [.ref t2, .int t1, .int t0]) (st := [.int t4, .int t5, .ref t6]) 1 rfl (Or.inl ⟨rfl, rfl⟩) rfl rfl (Nat.le_of_ble_eq_true rfl) (Nat.le_of_ble_eq_true rfl) (g_Bench_tell hv14) (f_Bench_tell sp d N S t3 t2 t1 t0 _ hv14) ?_
  obtain ⟨S15, hS15, h⟩ := obind h
  refine pE_iv (Bs := [.int t5, .int t4, .int v14]) (st := []) 1 rfl (Or.inl ⟨rfl, rfl⟩) rfl rfl (Nat.le_of_ble_eq_true rfl) (Nat.le_of_ble_eq_true rfl) (g_Sheet_write hS15) (f_Sheet_write sp (d + 3) N S13 t6 t5 t4 v14 _ hS15) ?_
  exact f_Bench_fill_91 sp d N rec20 rec42 x0 x1 x3 x4 x5 S15 hrec20 hrec42 _ h
def B_Bench_fill_42 (N : Nat) (rec20 : Int32 → pm_S → Option pm_S) (rec42 : Int32 → pm_S → Option pm_S) (x0 : Nat) (x1 : Nat) (x3 : Int32) (x4 : Int32) (x5 : Int32) (S : pm_S) : Option pm_S :=
    if 24 ≤ x5 then
    F_Bench_fill_97 N rec20 x0 x1 x3 x4 S
    else
    (if ((x3 >>> (x5 &&& 31)) &&& 1) = 0 then
    F_Bench_fill_91 N rec20 rec42 x0 x1 x3 x4 x5 S
    else
    ((oR S x1 4 11).bind fun oq10 => match oq10 with
    | none => none
    | some q10 =>
    if (x5 &&& 1) = 1 then
    F_Bench_fill_85_2 N rec20 rec42 x0 x1 x3 x4 x5 1 (x5 >>> (1 &&& 31)) x1 x0 x4 x5 q10 S
    else
    F_Bench_fill_85_2 N rec20 rec42 x0 x1 x3 x4 x5 0 (x5 >>> (1 &&& 31)) x1 x0 x4 x5 q10 S))
def F_Bench_fill_42 (N : Nat) (rec20 : Int32 → pm_S → Option pm_S) (x0 : Nat) (x1 : Nat) (x3 : Int32) (x4 : Int32) : Nat → Int32 → pm_S → Option pm_S
  | 0 => fun _ _ => none
  | n + 1 => fun x5 S => B_Bench_fill_42 N rec20 (F_Bench_fill_42 N rec20 x0 x1 x3 x4 n) x0 x1 x3 x4 x5 S
set_option maxHeartbeats 4000000 in
set_option maxRecDepth 20000 in
theorem f_Bench_fill_42 (sp : pm_I → List Value → pm_S → pm_O → Prop) (d N : Nat) (rec20 : Int32 → pm_S → Option pm_S) (x0 : Nat) (x1 : Nat) (x3 : Int32) (x4 : Int32) (hrec20 : ∀ (y1 : Int32) (U : pm_S) (r : pm_S), rec20 y1 U = some r → pmE pG (pm_rel pG sp (d + 5)) mi_Bench_fill 20 [some (.ref x0), some (.ref x1), none, some (.int x3), some (.int y1), none] [] U (none, r)) : ∀ (n : Nat) (x5 : Int32) (S : pm_S) (r : pm_S), F_Bench_fill_42 N rec20 x0 x1 x3 x4 n x5 S = some r → pmE pG (pm_rel pG sp (d + 5)) mi_Bench_fill 42 [some (.ref x0), some (.ref x1), none, some (.int x3), some (.int x4), some (.int x5)] [] S (none, r) := by
  intro n
  induction n with
  | zero =>
    intro x5 S r h
    cases h
  | succ n ih =>
    intro x5 S r h
    replace h : B_Bench_fill_42 N rec20 (F_Bench_fill_42 N rec20 x0 x1 x3 x4 n) x0 x1 x3 x4 x5 S = some r := h
    have hrec42 := ih
    generalize F_Bench_fill_42 N rec20 x0 x1 x3 x4 n = rec42 at h hrec42
    unfold B_Bench_fill_42 at h
    refine pE_jump 2 (pc' := 46) (ls' := [some (.ref x0), some (.ref x1), none, some (.int x3), some (.int x4), some (.int x5)]) (st' := [.int 24, .int x5]) (fun _ => rfl) ?_
    refine pE_br (24 ≤ x5) rfl rfl (fun c18 => ?_) (fun c18 => ?_)
    · rw [if_pos c18] at h
      refine pE_weak [some (.ref x0), some (.ref x1), none, some (.int x3), some (.int x4), none] ⟨rfl, ⟨rfl, ⟨rfl, ⟨rfl, trivial⟩⟩⟩⟩ ?_
      exact f_Bench_fill_97 sp d N rec20 x0 x1 x3 x4 S hrec20 _ h
    · rw [if_neg c18] at h
      refine pE_jump 5 (pc' := 55) (ls' := [some (.ref x0), some (.ref x1), none, some (.int x3), some (.int x4), some (.int x5)]) (st' := [.int ((x3 >>> (x5 &&& 31)) &&& 1)]) (fun _ => rfl) ?_
      refine pE_br (((x3 >>> (x5 &&& 31)) &&& 1) = 0) rfl rfl (fun c17 => ?_) (fun c17 => ?_)
      · rw [if_pos c17] at h
        exact f_Bench_fill_91 sp d N rec20 rec42 x0 x1 x3 x4 x5 S hrec20 hrec42 _ h
      · rw [if_neg c17] at h
        refine pE_jump 1 (pc' := 59) (ls' := [some (.ref x0), some (.ref x1), none, some (.int x3), some (.int x4), some (.int x5)]) (st' := [.ref x1]) (fun _ => rfl) ?_
        obtain ⟨oq10, hq10, h⟩ := obind h
        cases oq10 with
        | none => cases h
        | some q10 =>
          try dsimp only at h
          refine pE_gfS rfl rfl hq10 ?_
          refine pE_jump 11 (pc' := 77) (ls' := [some (.ref x0), some (.ref x1), none, some (.int x3), some (.int x4), some (.int x5)]) (st' := [.int 1, .int (x5 &&& 1), .int (x5 >>> (1 &&& 31)), .ref x1, .ref x0, .int x4, .int x5, .ref q10]) (fun _ => rfl) ?_
          refine pE_br (¬ (x5 &&& 1) = 1) rfl rfl (fun c16 => ?_) (fun c16 => ?_)
          · rw [if_neg c16] at h
            refine pE_jump 1 (pc' := 85) (ls' := [some (.ref x0), some (.ref x1), none, some (.int x3), some (.int x4), some (.int x5)]) (st' := [.int 0, .int (x5 >>> (1 &&& 31)), .ref x1, .ref x0, .int x4, .int x5, .ref q10]) (fun _ => rfl) ?_
            exact f_Bench_fill_85_2 sp d N rec20 rec42 x0 x1 x3 x4 x5 0 (x5 >>> (1 &&& 31)) x1 x0 x4 x5 q10 S hrec20 hrec42 _ h
          · have c16 := Decidable.not_not.mp c16
            rw [if_pos c16] at h
            refine pE_jump 2 (pc' := 85) (ls' := [some (.ref x0), some (.ref x1), none, some (.int x3), some (.int x4), some (.int x5)]) (st' := [.int 1, .int (x5 >>> (1 &&& 31)), .ref x1, .ref x0, .int x4, .int x5, .ref q10]) (fun _ => rfl) ?_
            exact f_Bench_fill_85_2 sp d N rec20 rec42 x0 x1 x3 x4 x5 1 (x5 >>> (1 &&& 31)) x1 x0 x4 x5 q10 S hrec20 hrec42 _ h
def B_Bench_fill_20 (N : Nat)  (rec20 : Int32 → pm_S → Option pm_S) (x0 : Nat) (x1 : Nat) (x3 : Int32) (x4 : Int32) (S : pm_S) : Option pm_S :=
    (F_Plan_worlds N S x1).bind fun (v4, S3) =>
    if v4 ≤ x4 then
    F_Bench_fill_103 N x1 x3 S3
    else
    ((oR S3 x0 0 0).bind fun oq8 => match oq8 with
    | none => none
    | some q8 =>
    (F_Wires_lay N S3 q8 x1 x4).bind fun S9 =>
    F_Bench_fill_42 N rec20 x0 x1 x3 x4 N 0 S9)
def F_Bench_fill_20 (N : Nat)  (x0 : Nat) (x1 : Nat) (x3 : Int32) : Nat → Int32 → pm_S → Option pm_S
  | 0 => fun _ _ => none
  | n + 1 => fun x4 S => B_Bench_fill_20 N  (F_Bench_fill_20 N  x0 x1 x3 n) x0 x1 x3 x4 S
set_option maxHeartbeats 4000000 in
set_option maxRecDepth 20000 in
theorem f_Bench_fill_20 (sp : pm_I → List Value → pm_S → pm_O → Prop) (d N : Nat)  (x0 : Nat) (x1 : Nat) (x3 : Int32)  : ∀ (n : Nat) (x4 : Int32) (S : pm_S) (r : pm_S), F_Bench_fill_20 N  x0 x1 x3 n x4 S = some r → pmE pG (pm_rel pG sp (d + 5)) mi_Bench_fill 20 [some (.ref x0), some (.ref x1), none, some (.int x3), some (.int x4), none] [] S (none, r) := by
  intro n
  induction n with
  | zero =>
    intro x4 S r h
    cases h
  | succ n ih =>
    intro x4 S r h
    replace h : B_Bench_fill_20 N  (F_Bench_fill_20 N  x0 x1 x3 n) x0 x1 x3 x4 S = some r := h
    have hrec20 := ih
    generalize F_Bench_fill_20 N  x0 x1 x3 n = rec20 at h hrec20
    unfold B_Bench_fill_20 at h
    refine pE_jump 2 (pc' := 23) (ls' := [some (.ref x0), some (.ref x1), none, some (.int x3), some (.int x4), none]) (st' := [.ref x1, .int x4]) (fun _ => rfl) ?_
    obtain ⟨⟨v4, S3⟩, hv4, h⟩ := obind h
    try dsimp only at h
    refine pE_iv (Bs := []) (st := [.int x4]) 1 rfl (Or.inl ⟨rfl, rfl⟩) rfl rfl (Nat.le_of_ble_eq_true rfl) (Nat.le_of_ble_eq_true rfl) (g_Plan_worlds hv4) (f_Plan_worlds sp (d + 3) N S x1 _ hv4) ?_
    refine pE_br (v4 ≤ x4) rfl rfl (fun c19 => ?_) (fun c19 => ?_)
    · rw [if_pos c19] at h
      refine pE_weak [none, some (.ref x1), none, some (.int x3), none, none] ⟨rfl, ⟨rfl, trivial⟩⟩ ?_
      exact f_Bench_fill_103 sp d N x1 x3 S3 _ h
    · rw [if_neg c19] at h
      refine pE_jump 1 (pc' := 30) (ls' := [some (.ref x0), some (.ref x1), none, some (.int x3), some (.int x4), none]) (st' := [.ref x0]) (fun _ => rfl) ?_
      obtain ⟨oq8, hq8, h⟩ := obind h
      cases oq8 with
      | none => cases h
      | some q8 =>
        try dsimp only at h
        refine pE_gfS rfl rfl hq8 ?_
        refine pE_jump 2 (pc' := 36) (ls' := [some (.ref x0), some (.ref x1), none, some (.int x3), some (.int x4), none]) (st' := [.int x4, .ref x1, .ref q8]) (fun _ => rfl) ?_
        obtain ⟨S9, hS9, h⟩ := obind h
        refine pE_iv (Bs := [.ref x1, .int x4]) (st := []) 1 rfl (Or.inl ⟨rfl, rfl⟩) rfl rfl (Nat.le_of_ble_eq_true rfl) (Nat.le_of_ble_eq_true rfl) (g_Wires_lay hS9) (f_Wires_lay sp d N S3 q8 x1 x4 _ hS9) ?_
        refine pE_jump 2 (pc' := 42) (ls' := [some (.ref x0), some (.ref x1), none, some (.int x3), some (.int x4), some (.int 0)]) (st' := []) (fun _ => rfl) ?_
        exact f_Bench_fill_42 sp d N rec20 x0 x1 x3 x4 hrec20 N 0 S9 _ h
def F_Bench_fill (N : Nat) (S : pm_S) (a : Nat) (p0 : Nat) (p1 : Int32) : Option pm_S :=
    if rcv S a 0 = true then
    ((oR S p0 4 11).bind fun oq1 => match oq1 with
    | none => none
    | some q1 =>
    (oI S q1 5 2).bind fun v2 =>
    if (p1 &&& (v2 ^^^ (-1))) = 0 then
    some S
    else
    F_Bench_fill_20 N a p0 (p1 &&& (v2 ^^^ (-1))) N 0 S)
    else none
theorem g_Bench_fill {N : Nat} {S : pm_S} {a : Nat} {p0 : Nat} {p1 : Int32} {r : pm_S} (h : F_Bench_fill N S a p0 p1 = some r) : rcv S a 0 = true := by
  unfold F_Bench_fill at h
  by_cases c : rcv S a 0 = true
  · exact c
  · rw [if_neg c] at h; cases h
set_option maxHeartbeats 4000000 in
set_option maxRecDepth 20000 in
theorem f_Bench_fill (sp : pm_I → List Value → pm_S → pm_O → Prop) (d N : Nat) (S : pm_S) (a : Nat) (p0 : Nat) (p1 : Int32) (r : pm_S) (h : F_Bench_fill N S a p0 p1 = some r) : pm_rel pG sp (d + 6) mi_Bench_fill [.ref a, .ref p0, .int p1] S (none, r) := by
  have hg := g_Bench_fill h
  unfold F_Bench_fill at h
  rw [if_pos hg] at h
  refine pE_rel (d := d + 5) ?_
  show pmE pG _ mi_Bench_fill 0 [some (.ref a), some (.ref p0), some (.int p1), none, none, none] [] S _
  refine pE_jump 2 (pc' := 2) (ls' := [some (.ref a), some (.ref p0), some (.int p1), none, none, none]) (st' := [.ref p0, .int p1]) (fun _ => rfl) ?_
  obtain ⟨oq1, hq1, h⟩ := obind h
  cases oq1 with
  | none => cases h
  | some q1 =>
    try dsimp only at h
    refine pE_gfS rfl rfl hq1 ?_
    obtain ⟨v2, hv2, h⟩ := obind h
    refine pE_gfI rfl rfl hv2 ?_
    refine pE_jump 5 (pc' := 13) (ls' := [some (.ref a), some (.ref p0), some (.int p1), some (.int (p1 &&& (v2 ^^^ (-1)))), none, none]) (st' := [.int (p1 &&& (v2 ^^^ (-1)))]) (fun _ => rfl) ?_
    refine pE_br (¬ (p1 &&& (v2 ^^^ (-1))) = 0) rfl rfl (fun c20 => ?_) (fun c20 => ?_)
    · rw [if_neg c20] at h
      refine pE_jump 2 (pc' := 20) (ls' := [some (.ref a), some (.ref p0), some (.int p1), some (.int (p1 &&& (v2 ^^^ (-1)))), some (.int 0), none]) (st' := []) (fun _ => rfl) ?_
      refine pE_weak [some (.ref a), some (.ref p0), none, some (.int (p1 &&& (v2 ^^^ (-1)))), some (.int 0), none] ⟨rfl, ⟨rfl, ⟨rfl, ⟨rfl, trivial⟩⟩⟩⟩ ?_
      exact f_Bench_fill_20 sp d N a p0 (p1 &&& (v2 ^^^ (-1))) N 0 S _ h
    · have c20 := Decidable.not_not.mp c20
      rw [if_pos c20] at h
      cases h
      exact pE_ret rfl rfl rfl
def F_Sheet_written_22 (N : Nat)   (S : pm_S) : Option (Int32 × pm_S) :=
    some ((-1), S)
set_option maxHeartbeats 4000000 in
set_option maxRecDepth 20000 in
theorem f_Sheet_written_22 (sp : pm_I → List Value → pm_S → pm_O → Prop) (d N : Nat)   (S : pm_S)  (r : (Int32 × pm_S)) (h : F_Sheet_written_22 N   S = some r) : pmE pG (pm_rel pG sp (d + 1)) mi_Sheet_written 22 [none, none, none] [] S (some (.int r.1), r.2) := by
  unfold F_Sheet_written_22 at h
  refine pE_jump 1 (pc' := 23) (ls' := [none, none, none]) (st' := [.int (-1)]) (fun _ => rfl) ?_
  cases h
  exact pE_ret rfl rfl rfl
def F_Sheet_written (N : Nat) (S : pm_S) (a : Nat) (p0 : Int32) (p1 : Int32) : Option (Int32 × pm_S) :=
    if rcv S a 5 = true then
    (if p0 < 0 then
    F_Sheet_written_22 N S
    else
    ((oR S a 5 0).bind fun oq1 => match oq1 with
    | none => none
    | some q1 =>
    (aNS S q1).bind fun v2 =>
    if v2 ≤ p0 then
    F_Sheet_written_22 N S
    else
    ((oR S a 5 0).bind fun oq3 => match oq3 with
    | none => none
    | some q3 =>
    (aQ S q3 p0).bind fun oq4 => match oq4 with
    | none => F_Sheet_written_22 N S
    | some q4 =>
    (oR S a 5 0).bind fun oq5 => match oq5 with
    | none => none
    | some q5 =>
    (aQ S q5 p0).bind fun oq6 => match oq6 with
    | none => none
    | some q6 =>
    (F_BP_valueAt N S q6 p1).bind fun (v8, S7) =>
    some (v8, S7))))
    else none
theorem g_Sheet_written {N : Nat} {S : pm_S} {a : Nat} {p0 : Int32} {p1 : Int32} {r : (Int32 × pm_S)} (h : F_Sheet_written N S a p0 p1 = some r) : rcv S a 5 = true := by
  unfold F_Sheet_written at h
  by_cases c : rcv S a 5 = true
  · exact c
  · rw [if_neg c] at h; cases h
set_option maxHeartbeats 4000000 in
set_option maxRecDepth 20000 in
theorem f_Sheet_written (sp : pm_I → List Value → pm_S → pm_O → Prop) (d N : Nat) (S : pm_S) (a : Nat) (p0 : Int32) (p1 : Int32) (r : (Int32 × pm_S)) (h : F_Sheet_written N S a p0 p1 = some r) : pm_rel pG sp (d + 2) mi_Sheet_written [.ref a, .int p0, .int p1] S (some (.int r.1), r.2) := by
  have hg := g_Sheet_written h
  unfold F_Sheet_written at h
  rw [if_pos hg] at h
  refine pE_rel (d := d + 1) ?_
  show pmE pG _ mi_Sheet_written 0 [some (.ref a), some (.int p0), some (.int p1)] [] S _
  refine pE_jump 1 (pc' := 1) (ls' := [some (.ref a), some (.int p0), some (.int p1)]) (st' := [.int p0]) (fun _ => rfl) ?_
  refine pE_br (p0 < 0) rfl rfl (fun c10 => ?_) (fun c10 => ?_)
  · rw [if_pos c10] at h
    refine pE_weak [none, none, none] trivial ?_
    exact f_Sheet_written_22 sp d N S _ h
  · rw [if_neg c10] at h
    refine pE_jump 2 (pc' := 6) (ls' := [some (.ref a), some (.int p0), some (.int p1)]) (st' := [.ref a, .int p0]) (fun _ => rfl) ?_
    obtain ⟨oq1, hq1, h⟩ := obind h
    cases oq1 with
    | none => cases h
    | some q1 =>
      try dsimp only at h
      refine pE_gfS rfl rfl hq1 ?_
      obtain ⟨v2, hv2, h⟩ := obind h
      refine pE_aN rfl hv2 ?_
      refine pE_br (v2 ≤ p0) rfl rfl (fun c9 => ?_) (fun c9 => ?_)
      · rw [if_pos c9] at h
        refine pE_weak [none, none, none] trivial ?_
        exact f_Sheet_written_22 sp d N S _ h
      · rw [if_neg c9] at h
        refine pE_jump 1 (pc' := 14) (ls' := [some (.ref a), some (.int p0), some (.int p1)]) (st' := [.ref a]) (fun _ => rfl) ?_
        obtain ⟨oq3, hq3, h⟩ := obind h
        cases oq3 with
        | none => cases h
        | some q3 =>
          try dsimp only at h
          refine pE_gfS rfl rfl hq3 ?_
          refine pE_jump 1 (pc' := 18) (ls' := [some (.ref a), some (.int p0), some (.int p1)]) (st' := [.int p0, .ref q3]) (fun _ => rfl) ?_
          obtain ⟨oq4, hq4, h⟩ := obind h
          cases oq4 with
          | none =>
            try dsimp only at h
            refine pE_aQN rfl hq4 ?_
            refine pE_jump 1 (pc' := 22) (ls' := [some (.ref a), some (.int p0), some (.int p1)]) (st' := []) (fun _ => rfl) ?_
            refine pE_weak [none, none, none] trivial ?_
            exact f_Sheet_written_22 sp d N S _ h
          | some q4 =>
            try dsimp only at h
            refine pE_aQS rfl hq4 ?_
            refine pE_jump 2 (pc' := 25) (ls' := [some (.ref a), some (.int p0), some (.int p1)]) (st' := [.ref a]) (fun _ => rfl) ?_
            obtain ⟨oq5, hq5, h⟩ := obind h
            cases oq5 with
            | none => cases h
            | some q5 =>
              try dsimp only at h
              refine pE_gfS rfl rfl hq5 ?_
              refine pE_jump 1 (pc' := 29) (ls' := [some (.ref a), some (.int p0), some (.int p1)]) (st' := [.int p0, .ref q5]) (fun _ => rfl) ?_
              obtain ⟨oq6, hq6, h⟩ := obind h
              cases oq6 with
              | none => cases h
              | some q6 =>
                try dsimp only at h
                refine pE_aQS rfl hq6 ?_
                refine pE_jump 1 (pc' := 31) (ls' := [some (.ref a), some (.int p0), some (.int p1)]) (st' := [.int p1, .ref q6]) (fun _ => rfl) ?_
                obtain ⟨⟨v8, S7⟩, hv8, h⟩ := obind h
                try dsimp only at h
                refine pE_is (Bs := [.ref q6, .int p1]) (st := []) rfl rfl rfl (Nat.le_of_ble_eq_true rfl) (Nat.le_of_ble_eq_true rfl) (f_BP_valueAt sp d N S q6 p1 _ hv8) ?_
                cases h
                exact pE_ret rfl rfl rfl
def F_Bench_fits_51 (N : Nat)   (S : pm_S) : Option (Int32 × pm_S) :=
    some (1, S)
set_option maxHeartbeats 4000000 in
set_option maxRecDepth 20000 in
theorem f_Bench_fits_51 (sp : pm_I → List Value → pm_S → pm_O → Prop) (d N : Nat)   (S : pm_S)  (r : (Int32 × pm_S)) (h : F_Bench_fits_51 N   S = some r) : pmE pG (pm_rel pG sp (d + 2)) mi_Bench_fits 51 [none, none, none, none, none] [] S (some (.int r.1), r.2) := by
  unfold F_Bench_fits_51 at h
  refine pE_jump 1 (pc' := 52) (ls' := [none, none, none, none, none]) (st' := [.int 1]) (fun _ => rfl) ?_
  cases h
  exact pE_ret rfl rfl rfl
def F_Bench_fits_43 (N : Nat)   (S : pm_S) : Option (Int32 × pm_S) :=
    some (0, S)
set_option maxHeartbeats 4000000 in
set_option maxRecDepth 20000 in
theorem f_Bench_fits_43 (sp : pm_I → List Value → pm_S → pm_O → Prop) (d N : Nat)   (S : pm_S)  (r : (Int32 × pm_S)) (h : F_Bench_fits_43 N   S = some r) : pmE pG (pm_rel pG sp (d + 2)) mi_Bench_fits 43 [none, none, none, none, none] [] S (some (.int r.1), r.2) := by
  unfold F_Bench_fits_43 at h
  refine pE_jump 1 (pc' := 44) (ls' := [none, none, none, none, none]) (st' := [.int 0]) (fun _ => rfl) ?_
  cases h
  exact pE_ret rfl rfl rfl
def B_Bench_fits_2 (N : Nat)  (rec2 : Int32 → pm_S → Option (Int32 × pm_S)) (x0 : Nat) (x1 : Nat) (x2 : Int32) (x3 : Int32) (S : pm_S) : Option (Int32 × pm_S) :=
    (oR S x1 4 9).bind fun oq1 => match oq1 with
    | none => none
    | some q1 =>
    (F_Ledger_size N S q1).bind fun (v3, S2) =>
    if v3 ≤ x3 then
    F_Bench_fits_51 N S2
    else
    ((oR S2 x1 4 11).bind fun oq4 => match oq4 with
    | none => none
    | some q4 =>
    (F_Bench_columnOfReading N S2 x0 x1 x3).bind fun (v8, S7) =>
    (F_Sheet_written N S7 q4 v8 x2).bind fun (v10, S9) =>
    (oR S9 x1 4 9).bind fun oq11 => match oq11 with
    | none => none
    | some q11 =>
    (F_Ledger_at N S9 q11 x3 2).bind fun (v13, S12) =>
    if v10 = v13 then
    rec2 (x3 + 1) S12
    else
    F_Bench_fits_43 N S12)
def F_Bench_fits_2 (N : Nat)  (x0 : Nat) (x1 : Nat) (x2 : Int32) : Nat → Int32 → pm_S → Option (Int32 × pm_S)
  | 0 => fun _ _ => none
  | n + 1 => fun x3 S => B_Bench_fits_2 N  (F_Bench_fits_2 N  x0 x1 x2 n) x0 x1 x2 x3 S
set_option maxHeartbeats 4000000 in
set_option maxRecDepth 20000 in
theorem f_Bench_fits_2 (sp : pm_I → List Value → pm_S → pm_O → Prop) (d N : Nat)  (x0 : Nat) (x1 : Nat) (x2 : Int32)  : ∀ (n : Nat) (x3 : Int32) (S : pm_S) (r : (Int32 × pm_S)), F_Bench_fits_2 N  x0 x1 x2 n x3 S = some r → pmE pG (pm_rel pG sp (d + 2)) mi_Bench_fits 2 [some (.ref x0), some (.ref x1), some (.int x2), some (.int x3), none] [] S (some (.int r.1), r.2) := by
  intro n
  induction n with
  | zero =>
    intro x3 S r h
    cases h
  | succ n ih =>
    intro x3 S r h
    replace h : B_Bench_fits_2 N  (F_Bench_fits_2 N  x0 x1 x2 n) x0 x1 x2 x3 S = some r := h
    have hrec2 := ih
    generalize F_Bench_fits_2 N  x0 x1 x2 n = rec2 at h hrec2
    unfold B_Bench_fits_2 at h
    refine pE_jump 2 (pc' := 4) (ls' := [some (.ref x0), some (.ref x1), some (.int x2), some (.int x3), none]) (st' := [.ref x1, .int x3]) (fun _ => rfl) ?_
    obtain ⟨oq1, hq1, h⟩ := obind h
    cases oq1 with
    | none => cases h
    | some q1 =>
      try dsimp only at h
      refine pE_gfS rfl rfl hq1 ?_
      obtain ⟨⟨v3, S2⟩, hv3, h⟩ := obind h
      try dsimp only at h
      refine pE_iv (Bs := []) (st := [.int x3]) 1 rfl (Or.inl ⟨rfl, rfl⟩) rfl rfl (Nat.le_of_ble_eq_true rfl) (Nat.le_of_ble_eq_true rfl) (g_Ledger_size hv3) (f_Ledger_size sp (d + 1) N S q1 _ hv3) ?_
      refine pE_br (v3 ≤ x3) rfl rfl (fun c15 => ?_) (fun c15 => ?_)
      · rw [if_pos c15] at h
        refine pE_weak [none, none, none, none, none] trivial ?_
        exact f_Bench_fits_51 sp d N S2 _ h
      · rw [if_neg c15] at h
        refine pE_jump 1 (pc' := 14) (ls' := [some (.ref x0), some (.ref x1), some (.int x2), some (.int x3), none]) (st' := [.ref x1]) (fun _ => rfl) ?_
        obtain ⟨oq4, hq4, h⟩ := obind h
        cases oq4 with
        | none => cases h
        | some q4 =>
          try dsimp only at h
          refine pE_gfS rfl rfl hq4 ?_
          refine pE_jump 3 (pc' := 20) (ls' := [some (.ref x0), some (.ref x1), some (.int x2), some (.int x3), none]) (st' := [.int x3, .ref x1, .ref x0, .ref q4]) (fun _ => rfl) ?_
          obtain ⟨⟨v8, S7⟩, hv8, h⟩ := obind h
          try dsimp only at h
          refine pE_iv (Bs := [.ref x1, .int x3]) (st := [.ref q4]) 1 rfl (Or.inl ⟨rfl, rfl⟩) rfl rfl (Nat.le_of_ble_eq_true rfl) (Nat.le_of_ble_eq_true rfl) (g_Bench_columnOfReading hv8) (f_Bench_columnOfReading sp d N S2 x0 x1 x3 _ hv8) ?_
          refine pE_jump 1 (pc' := 24) (ls' := [some (.ref x0), some (.ref x1), some (.int x2), some (.int x3), none]) (st' := [.int x2, .int v8, .ref q4]) (fun _ => rfl) ?_
          obtain ⟨⟨v10, S9⟩, hv10, h⟩ := obind h
          try dsimp only at h
          refine pE_iv (Bs := [.int v8, .int x2]) (st := []) 1 rfl (Or.inl ⟨rfl, rfl⟩) rfl rfl (Nat.le_of_ble_eq_true rfl) (Nat.le_of_ble_eq_true rfl) (g_Sheet_written hv10) (f_Sheet_written sp d N S7 q4 v8 x2 _ hv10) ?_
          refine pE_jump 3 (pc' := 32) (ls' := [some (.ref x0), some (.ref x1), some (.int x2), some (.int x3), some (.int v10)]) (st' := [.ref x1, .int v10]) (fun _ => rfl) ?_
          obtain ⟨oq11, hq11, h⟩ := obind h
          cases oq11 with
          | none => cases h
          | some q11 =>
            try dsimp only at h
            refine pE_gfS rfl rfl hq11 ?_
            refine pE_jump 2 (pc' := 37) (ls' := [some (.ref x0), some (.ref x1), some (.int x2), some (.int x3), some (.int v10)]) (st' := [.int 2, .int x3, .ref q11, .int v10]) (fun _ => rfl) ?_
            obtain ⟨⟨v13, S12⟩, hv13, h⟩ := obind h
            try dsimp only at h
            refine pE_iv (Bs := [.int x3, .int 2]) (st := [.int v10]) 1 rfl (Or.inl ⟨rfl, rfl⟩) rfl rfl (Nat.le_of_ble_eq_true rfl) (Nat.le_of_ble_eq_true rfl) (g_Ledger_at hv13) (f_Ledger_at sp (d + 1) N S9 q11 x3 2 _ hv13) ?_
            refine pE_br (v10 = v13) rfl rfl (fun c14 => ?_) (fun c14 => ?_)
            · rw [if_pos c14] at h
              refine pE_jump 2 (pc' := 2) (ls' := [some (.ref x0), some (.ref x1), some (.int x2), some (.int (x3 + 1)), some (.int v10)]) (st' := []) (fun _ => rfl) ?_
              refine pE_weak [some (.ref x0), some (.ref x1), some (.int x2), some (.int (x3 + 1)), none] ⟨rfl, ⟨rfl, ⟨rfl, ⟨rfl, trivial⟩⟩⟩⟩ ?_
              exact hrec2 (x3 + 1) S12 _ h
            · rw [if_neg c14] at h
              refine pE_weak [none, none, none, none, none] trivial ?_
              exact f_Bench_fits_43 sp d N S12 _ h
def F_Bench_fits (N : Nat) (S : pm_S) (a : Nat) (p0 : Nat) (p1 : Int32) : Option (Int32 × pm_S) :=
    if rcv S a 0 = true then
    (F_Bench_fits_2 N a p0 p1 N 0 S)
    else none
theorem g_Bench_fits {N : Nat} {S : pm_S} {a : Nat} {p0 : Nat} {p1 : Int32} {r : (Int32 × pm_S)} (h : F_Bench_fits N S a p0 p1 = some r) : rcv S a 0 = true := by
  unfold F_Bench_fits at h
  by_cases c : rcv S a 0 = true
  · exact c
  · rw [if_neg c] at h; cases h
set_option maxHeartbeats 4000000 in
set_option maxRecDepth 20000 in
theorem f_Bench_fits (sp : pm_I → List Value → pm_S → pm_O → Prop) (d N : Nat) (S : pm_S) (a : Nat) (p0 : Nat) (p1 : Int32) (r : (Int32 × pm_S)) (h : F_Bench_fits N S a p0 p1 = some r) : pm_rel pG sp (d + 3) mi_Bench_fits [.ref a, .ref p0, .int p1] S (some (.int r.1), r.2) := by
  have hg := g_Bench_fits h
  unfold F_Bench_fits at h
  rw [if_pos hg] at h
  refine pE_rel (d := d + 2) ?_
  show pmE pG _ mi_Bench_fits 0 [some (.ref a), some (.ref p0), some (.int p1), none, none] [] S _
  refine pE_jump 2 (pc' := 2) (ls' := [some (.ref a), some (.ref p0), some (.int p1), some (.int 0), none]) (st' := []) (fun _ => rfl) ?_
  exact f_Bench_fits_2 sp d N a p0 p1 N 0 S _ h
def F_Sheet_addFit_34 (N : Nat)   (S : pm_S) : Option pm_S :=
    some S
set_option maxHeartbeats 4000000 in
set_option maxRecDepth 20000 in
theorem f_Sheet_addFit_34 (sp : pm_I → List Value → pm_S → pm_O → Prop) (d N : Nat)   (S : pm_S)  (r : pm_S) (h : F_Sheet_addFit_34 N   S = some r) : pmE pG (pm_rel pG sp (d + 1)) mi_Sheet_addFit 34 [none, none] [] S (none, r) := by
  unfold F_Sheet_addFit_34 at h
  cases h
  exact pE_ret rfl rfl rfl
def F_Sheet_addFit (N : Nat) (S : pm_S) (a : Nat) (p0 : Int32) : Option pm_S :=
    if rcv S a 5 = true then
    ((oI S a 5 3).bind fun v1 =>
    (oR S a 5 1).bind fun oq2 => match oq2 with
    | none => none
    | some q2 =>
    (aNS S q2).bind fun v3 =>
    if v3 ≤ v1 then
    F_Sheet_addFit_34 N S
    else
    ((oR S a 5 1).bind fun oq4 => match oq4 with
    | none => none
    | some q4 =>
    (oI S a 5 3).bind fun v6 =>
    (F_BP_setAt N S q4 v6 p0).bind fun S7 =>
    (oI S7 a 5 3).bind fun v8 =>
    (wF S7 a 5 3 .int (.int (v8 + 1))).bind fun S9 =>
    F_Sheet_addFit_34 N S9))
    else none
theorem g_Sheet_addFit {N : Nat} {S : pm_S} {a : Nat} {p0 : Int32} {r : pm_S} (h : F_Sheet_addFit N S a p0 = some r) : rcv S a 5 = true := by
  unfold F_Sheet_addFit at h
  by_cases c : rcv S a 5 = true
  · exact c
  · rw [if_neg c] at h; cases h
set_option maxHeartbeats 4000000 in
set_option maxRecDepth 20000 in
theorem f_Sheet_addFit (sp : pm_I → List Value → pm_S → pm_O → Prop) (d N : Nat) (S : pm_S) (a : Nat) (p0 : Int32) (r : pm_S) (h : F_Sheet_addFit N S a p0 = some r) : pm_rel pG sp (d + 2) mi_Sheet_addFit [.ref a, .int p0] S (none, r) := by
  have hg := g_Sheet_addFit h
  unfold F_Sheet_addFit at h
  rw [if_pos hg] at h
  refine pE_rel (d := d + 1) ?_
  show pmE pG _ mi_Sheet_addFit 0 [some (.ref a), some (.int p0)] [] S _
  refine pE_jump 1 (pc' := 1) (ls' := [some (.ref a), some (.int p0)]) (st' := [.ref a]) (fun _ => rfl) ?_
  obtain ⟨v1, hv1, h⟩ := obind h
  refine pE_gfI rfl rfl hv1 ?_
  refine pE_jump 1 (pc' := 5) (ls' := [some (.ref a), some (.int p0)]) (st' := [.ref a, .int v1]) (fun _ => rfl) ?_
  obtain ⟨oq2, hq2, h⟩ := obind h
  cases oq2 with
  | none => cases h
  | some q2 =>
    try dsimp only at h
    refine pE_gfS rfl rfl hq2 ?_
    obtain ⟨v3, hv3, h⟩ := obind h
    refine pE_aN rfl hv3 ?_
    refine pE_br (v3 ≤ v1) rfl rfl (fun c10 => ?_) (fun c10 => ?_)
    · rw [if_pos c10] at h
      refine pE_weak [none, none] trivial ?_
      exact f_Sheet_addFit_34 sp d N S _ h
    · rw [if_neg c10] at h
      refine pE_jump 1 (pc' := 13) (ls' := [some (.ref a), some (.int p0)]) (st' := [.ref a]) (fun _ => rfl) ?_
      obtain ⟨oq4, hq4, h⟩ := obind h
      cases oq4 with
      | none => cases h
      | some q4 =>
        try dsimp only at h
        refine pE_gfS rfl rfl hq4 ?_
        refine pE_jump 1 (pc' := 17) (ls' := [some (.ref a), some (.int p0)]) (st' := [.ref a, .ref q4]) (fun _ => rfl) ?_
        obtain ⟨v6, hv6, h⟩ := obind h
        refine pE_gfI rfl rfl hv6 ?_
        refine pE_jump 1 (pc' := 21) (ls' := [some (.ref a), some (.int p0)]) (st' := [.int p0, .int v6, .ref q4]) (fun _ => rfl) ?_
        obtain ⟨S7, hS7, h⟩ := obind h
        refine pE_is (Bs := [.ref q4, .int v6, .int p0]) (st := []) rfl rfl rfl (Nat.le_of_ble_eq_true rfl) (Nat.le_of_ble_eq_true rfl) (f_BP_setAt sp d N S q4 v6 p0 _ hS7) ?_
        refine pE_jump 2 (pc' := 26) (ls' := [some (.ref a), some (.int p0)]) (st' := [.ref a, .ref a]) (fun _ => rfl) ?_
        obtain ⟨v8, hv8, h⟩ := obind h
        refine pE_gfI rfl rfl hv8 ?_
        refine pE_jump 2 (pc' := 31) (ls' := [some (.ref a), some (.int p0)]) (st' := [.int (v8 + 1), .ref a]) (fun _ => rfl) ?_
        obtain ⟨S9, hS9, h⟩ := obind h
        refine pE_pf rfl rfl rfl hS9 ?_
        refine pE_weak [none, none] trivial ?_
        exact f_Sheet_addFit_34 sp d N S9 _ h
