def F_BP_count_137 (N : Nat)  (t0 : Int32) (S : pm_S) : Option (Int32 × pm_S) :=
    some (t0, S)
set_option maxHeartbeats 4000000 in
set_option maxRecDepth 20000 in
theorem f_BP_count_137 (sp : pm_I → List Value → pm_S → pm_O → Prop) (d N : Nat)  (t0 : Int32) (S : pm_S)  (r : (Int32 × pm_S)) (h : F_BP_count_137 N  t0 S = some r) : pmE pG (pm_rel pG sp (d + 1)) mi_BP_count 137 [none, none, none] [.int t0] S (some (.int r.1), r.2) := by
  unfold F_BP_count_137 at h
  cases h
  exact pE_ret rfl rfl rfl
def F_BP_count_121 (N : Nat)  (t0 : Int32) (S : pm_S) : Option (Int32 × pm_S) :=
    some (t0, S)
set_option maxHeartbeats 4000000 in
set_option maxRecDepth 20000 in
theorem f_BP_count_121 (sp : pm_I → List Value → pm_S → pm_O → Prop) (d N : Nat)  (t0 : Int32) (S : pm_S)  (r : (Int32 × pm_S)) (h : F_BP_count_121 N  t0 S = some r) : pmE pG (pm_rel pG sp (d + 1)) mi_BP_count 121 [none, none, none] [.int t0] S (some (.int r.1), r.2) := by
  unfold F_BP_count_121 at h
  cases h
  exact pE_ret rfl rfl rfl
def F_BP_count_105 (N : Nat)  (t0 : Int32) (S : pm_S) : Option (Int32 × pm_S) :=
    some (t0, S)
set_option maxHeartbeats 4000000 in
set_option maxRecDepth 20000 in
theorem f_BP_count_105 (sp : pm_I → List Value → pm_S → pm_O → Prop) (d N : Nat)  (t0 : Int32) (S : pm_S)  (r : (Int32 × pm_S)) (h : F_BP_count_105 N  t0 S = some r) : pmE pG (pm_rel pG sp (d + 1)) mi_BP_count 105 [none, none, none] [.int t0] S (some (.int r.1), r.2) := by
  unfold F_BP_count_105 at h
  cases h
  exact pE_ret rfl rfl rfl
def F_BP_count_89 (N : Nat)  (t0 : Int32) (S : pm_S) : Option (Int32 × pm_S) :=
    some (t0, S)
set_option maxHeartbeats 4000000 in
set_option maxRecDepth 20000 in
theorem f_BP_count_89 (sp : pm_I → List Value → pm_S → pm_O → Prop) (d N : Nat)  (t0 : Int32) (S : pm_S)  (r : (Int32 × pm_S)) (h : F_BP_count_89 N  t0 S = some r) : pmE pG (pm_rel pG sp (d + 1)) mi_BP_count 89 [none, none, none] [.int t0] S (some (.int r.1), r.2) := by
  unfold F_BP_count_89 at h
  cases h
  exact pE_ret rfl rfl rfl
def F_BP_count_73 (N : Nat)  (t0 : Int32) (S : pm_S) : Option (Int32 × pm_S) :=
    some (t0, S)
set_option maxHeartbeats 4000000 in
set_option maxRecDepth 20000 in
theorem f_BP_count_73 (sp : pm_I → List Value → pm_S → pm_O → Prop) (d N : Nat)  (t0 : Int32) (S : pm_S)  (r : (Int32 × pm_S)) (h : F_BP_count_73 N  t0 S = some r) : pmE pG (pm_rel pG sp (d + 1)) mi_BP_count 73 [none, none, none] [.int t0] S (some (.int r.1), r.2) := by
  unfold F_BP_count_73 at h
  cases h
  exact pE_ret rfl rfl rfl
def F_BP_count (N : Nat) (S : pm_S) (a : Nat) (p0 : Int32) : Option (Int32 × pm_S) :=
    if rcv S a 10 = true then
    ((F_BP_planAt N S a 0).bind fun (oq2, S1) => match oq2 with
    | none => (if p0 = 0 then
    ((oI S1 a 10 6).bind fun v13 =>
    some (v13, S1))
    else
    (if p0 = 1 then
    ((oR S1 a 10 0).bind fun oq10 => match oq10 with
    | none => none
    | some q10 =>
    (F_Tape_size N S1 q10).bind fun (v12, S11) =>
    some (v12, S11))
    else
    (if p0 = 2 then
    F_BP_count_73 N 0 S1
    else
    (if p0 = 3 then
    F_BP_count_89 N 0 S1
    else
    (if p0 = 4 then
    F_BP_count_105 N 0 S1
    else
    (if p0 = 5 then
    F_BP_count_121 N 0 S1
    else
    (if p0 = 6 then
    F_BP_count_137 N 0 S1
    else
    some ((-1), S1))))))))
    | some q2 =>
    if p0 = 0 then
    ((oI S1 a 10 6).bind fun v37 =>
    some (v37, S1))
    else
    (if p0 = 1 then
    ((oR S1 a 10 0).bind fun oq34 => match oq34 with
    | none => none
    | some q34 =>
    (F_Tape_size N S1 q34).bind fun (v36, S35) =>
    some (v36, S35))
    else
    (if p0 = 2 then
    ((oI S1 q2 4 0).bind fun v33 =>
    F_BP_count_73 N v33 S1)
    else
    (if p0 = 3 then
    ((oR S1 q2 4 1).bind fun oq30 => match oq30 with
    | none => none
    | some q30 =>
    (F_Ledger_size N S1 q30).bind fun (v32, S31) =>
    F_BP_count_89 N v32 S31)
    else
    (if p0 = 4 then
    ((oR S1 q2 4 6).bind fun oq27 => match oq27 with
    | none => none
    | some q27 =>
    (F_Ledger_size N S1 q27).bind fun (v29, S28) =>
    F_BP_count_105 N v29 S28)
    else
    (if p0 = 5 then
    ((oR S1 q2 4 8).bind fun oq24 => match oq24 with
    | none => none
    | some q24 =>
    (F_Ledger_size N S1 q24).bind fun (v26, S25) =>
    F_BP_count_121 N v26 S25)
    else
    (if p0 = 6 then
    ((oR S1 q2 4 9).bind fun oq21 => match oq21 with
    | none => none
    | some q21 =>
    (F_Ledger_size N S1 q21).bind fun (v23, S22) =>
    F_BP_count_137 N v23 S22)
    else
    some ((-1), S1))))))))
    else none
theorem g_BP_count {N : Nat} {S : pm_S} {a : Nat} {p0 : Int32} {r : (Int32 × pm_S)} (h : F_BP_count N S a p0 = some r) : rcv S a 10 = true := by
  unfold F_BP_count at h
  by_cases c : rcv S a 10 = true
  · exact c
  · rw [if_neg c] at h; cases h
set_option maxHeartbeats 4000000 in
set_option maxRecDepth 20000 in
theorem f_BP_count (sp : pm_I → List Value → pm_S → pm_O → Prop) (d N : Nat) (S : pm_S) (a : Nat) (p0 : Int32) (r : (Int32 × pm_S)) (h : F_BP_count N S a p0 = some r) : pm_rel pG sp (d + 2) mi_BP_count [.ref a, .int p0] S (some (.int r.1), r.2) := by
  have hg := g_BP_count h
  unfold F_BP_count at h
  rw [if_pos hg] at h
  refine pE_rel (d := d + 1) ?_
  show pmE pG _ mi_BP_count 0 [some (.ref a), some (.int p0), none] [] S _
  refine pE_jump 2 (pc' := 2) (ls' := [some (.ref a), some (.int p0), none]) (st' := [.int 0, .ref a]) (fun _ => rfl) ?_
  obtain ⟨⟨oq2, S1⟩, hq2, h⟩ := obind h
  try dsimp only at h
  cases oq2 with
  | none =>
    try dsimp only at h
    refine pE_iv (Bs := [.int 0]) (st := []) 1 rfl (Or.inl ⟨rfl, rfl⟩) rfl rfl (Nat.le_of_ble_eq_true rfl) (Nat.le_of_ble_eq_true rfl) (g_BP_planAt hq2) (f_BP_planAt sp d N S a 0 _ hq2) ?_
    refine pE_jump 2 (pc' := 7) (ls' := [some (.ref a), some (.int p0), some (.null)]) (st' := [.int p0]) (fun _ => rfl) ?_
    by_cases c3 : p0 = 0
    · rw [if_pos c3] at h
      refine pE_nx (pc' := 48) (ls' := [some (.ref a), some (.int p0), some (.null)]) (st' := []) (S' := S1) rfl (by rw [c3]; rfl) ?_
      refine pE_jump 1 (pc' := 49) (ls' := [some (.ref a), some (.int p0), some (.null)]) (st' := [.ref a]) (fun _ => rfl) ?_
      obtain ⟨v13, hv13, h⟩ := obind h
      refine pE_gfI rfl rfl hv13 ?_
      cases h
      exact pE_ret rfl rfl rfl
    · rw [if_neg c3] at h
      by_cases c4 : p0 = 1
      · rw [if_pos c4] at h
        refine pE_nx (pc' := 53) (ls' := [some (.ref a), some (.int p0), some (.null)]) (st' := []) (S' := S1) rfl (by rw [c4]; rfl) ?_
        refine pE_jump 1 (pc' := 54) (ls' := [some (.ref a), some (.int p0), some (.null)]) (st' := [.ref a]) (fun _ => rfl) ?_
        obtain ⟨oq10, hq10, h⟩ := obind h
        cases oq10 with
        | none => cases h
        | some q10 =>
          try dsimp only at h
          refine pE_gfS rfl rfl hq10 ?_
          obtain ⟨⟨v12, S11⟩, hv12, h⟩ := obind h
          try dsimp only at h
          refine pE_iv (Bs := []) (st := []) 1 rfl (Or.inl ⟨rfl, rfl⟩) rfl rfl (Nat.le_of_ble_eq_true rfl) (Nat.le_of_ble_eq_true rfl) (g_Tape_size hv12) (f_Tape_size sp d N S1 q10 _ hv12) ?_
          cases h
          exact pE_ret rfl rfl rfl
      · rw [if_neg c4] at h
        by_cases c5 : p0 = 2
        · rw [if_pos c5] at h
          refine pE_nx (pc' := 61) (ls' := [some (.ref a), some (.int p0), some (.null)]) (st' := []) (S' := S1) rfl (by rw [c5]; rfl) ?_
          refine pE_jump 4 (pc' := 73) (ls' := [some (.ref a), some (.int p0), some (.null)]) (st' := [.int 0]) (fun _ => rfl) ?_
          refine pE_weak [none, none, none] trivial ?_
          exact f_BP_count_73 sp d N 0 S1 _ h
        · rw [if_neg c5] at h
          by_cases c6 : p0 = 3
          · rw [if_pos c6] at h
            refine pE_nx (pc' := 74) (ls' := [some (.ref a), some (.int p0), some (.null)]) (st' := []) (S' := S1) rfl (by rw [c6]; rfl) ?_
            refine pE_jump 4 (pc' := 89) (ls' := [some (.ref a), some (.int p0), some (.null)]) (st' := [.int 0]) (fun _ => rfl) ?_
            refine pE_weak [none, none, none] trivial ?_
            exact f_BP_count_89 sp d N 0 S1 _ h
          · rw [if_neg c6] at h
            by_cases c7 : p0 = 4
            · rw [if_pos c7] at h
              refine pE_nx (pc' := 90) (ls' := [some (.ref a), some (.int p0), some (.null)]) (st' := []) (S' := S1) rfl (by rw [c7]; rfl) ?_
              refine pE_jump 4 (pc' := 105) (ls' := [some (.ref a), some (.int p0), some (.null)]) (st' := [.int 0]) (fun _ => rfl) ?_
              refine pE_weak [none, none, none] trivial ?_
              exact f_BP_count_105 sp d N 0 S1 _ h
            · rw [if_neg c7] at h
              by_cases c8 : p0 = 5
              · rw [if_pos c8] at h
                refine pE_nx (pc' := 106) (ls' := [some (.ref a), some (.int p0), some (.null)]) (st' := []) (S' := S1) rfl (by rw [c8]; rfl) ?_
                refine pE_jump 4 (pc' := 121) (ls' := [some (.ref a), some (.int p0), some (.null)]) (st' := [.int 0]) (fun _ => rfl) ?_
                refine pE_weak [none, none, none] trivial ?_
                exact f_BP_count_121 sp d N 0 S1 _ h
              · rw [if_neg c8] at h
                by_cases c9 : p0 = 6
                · rw [if_pos c9] at h
                  refine pE_nx (pc' := 122) (ls' := [some (.ref a), some (.int p0), some (.null)]) (st' := []) (S' := S1) rfl (by rw [c9]; rfl) ?_
                  refine pE_jump 4 (pc' := 137) (ls' := [some (.ref a), some (.int p0), some (.null)]) (st' := [.int 0]) (fun _ => rfl) ?_
                  refine pE_weak [none, none, none] trivial ?_
                  exact f_BP_count_137 sp d N 0 S1 _ h
                · rw [if_neg c9] at h
                  refine pE_swD (pc' := 138) rfl (pm_swd6 c3 c4 c5 c6 c7 c8 c9) (by decide) rfl ?_
                  refine pE_jump 1 (pc' := 139) (ls' := [some (.ref a), some (.int p0), some (.null)]) (st' := [.int (-1)]) (fun _ => rfl) ?_
                  cases h
                  exact pE_ret rfl rfl rfl
  | some q2 =>
    try dsimp only at h
    refine pE_iv (Bs := [.int 0]) (st := []) 1 rfl (Or.inl ⟨rfl, rfl⟩) rfl rfl (Nat.le_of_ble_eq_true rfl) (Nat.le_of_ble_eq_true rfl) (g_BP_planAt hq2) (f_BP_planAt sp d N S a 0 _ hq2) ?_
    refine pE_jump 2 (pc' := 7) (ls' := [some (.ref a), some (.int p0), some (.ref q2)]) (st' := [.int p0]) (fun _ => rfl) ?_
    by_cases c14 : p0 = 0
    · rw [if_pos c14] at h
      refine pE_nx (pc' := 48) (ls' := [some (.ref a), some (.int p0), some (.ref q2)]) (st' := []) (S' := S1) rfl (by rw [c14]; rfl) ?_
      refine pE_jump 1 (pc' := 49) (ls' := [some (.ref a), some (.int p0), some (.ref q2)]) (st' := [.ref a]) (fun _ => rfl) ?_
      obtain ⟨v37, hv37, h⟩ := obind h
      refine pE_gfI rfl rfl hv37 ?_
      cases h
      exact pE_ret rfl rfl rfl
    · rw [if_neg c14] at h
      by_cases c15 : p0 = 1
      · rw [if_pos c15] at h
        refine pE_nx (pc' := 53) (ls' := [some (.ref a), some (.int p0), some (.ref q2)]) (st' := []) (S' := S1) rfl (by rw [c15]; rfl) ?_
        refine pE_jump 1 (pc' := 54) (ls' := [some (.ref a), some (.int p0), some (.ref q2)]) (st' := [.ref a]) (fun _ => rfl) ?_
        obtain ⟨oq34, hq34, h⟩ := obind h
        cases oq34 with
        | none => cases h
        | some q34 =>
          try dsimp only at h
          refine pE_gfS rfl rfl hq34 ?_
          obtain ⟨⟨v36, S35⟩, hv36, h⟩ := obind h
          try dsimp only at h
          refine pE_iv (Bs := []) (st := []) 1 rfl (Or.inl ⟨rfl, rfl⟩) rfl rfl (Nat.le_of_ble_eq_true rfl) (Nat.le_of_ble_eq_true rfl) (g_Tape_size hv36) (f_Tape_size sp d N S1 q34 _ hv36) ?_
          cases h
          exact pE_ret rfl rfl rfl
      · rw [if_neg c15] at h
        by_cases c16 : p0 = 2
        · rw [if_pos c16] at h
          refine pE_nx (pc' := 61) (ls' := [some (.ref a), some (.int p0), some (.ref q2)]) (st' := []) (S' := S1) rfl (by rw [c16]; rfl) ?_
          refine pE_jump 3 (pc' := 70) (ls' := [some (.ref a), some (.int p0), some (.ref q2)]) (st' := [.ref q2]) (fun _ => rfl) ?_
          obtain ⟨v33, hv33, h⟩ := obind h
          refine pE_gfI rfl rfl hv33 ?_
          refine pE_weak [none, none, none] trivial ?_
          exact f_BP_count_73 sp d N v33 S1 _ h
        · rw [if_neg c16] at h
          by_cases c17 : p0 = 3
          · rw [if_pos c17] at h
            refine pE_nx (pc' := 74) (ls' := [some (.ref a), some (.int p0), some (.ref q2)]) (st' := []) (S' := S1) rfl (by rw [c17]; rfl) ?_
            refine pE_jump 3 (pc' := 83) (ls' := [some (.ref a), some (.int p0), some (.ref q2)]) (st' := [.ref q2]) (fun _ => rfl) ?_
            obtain ⟨oq30, hq30, h⟩ := obind h
            cases oq30 with
            | none => cases h
            | some q30 =>
              try dsimp only at h
              refine pE_gfS rfl rfl hq30 ?_
              obtain ⟨⟨v32, S31⟩, hv32, h⟩ := obind h
              try dsimp only at h
              refine pE_iv (Bs := []) (st := []) 1 rfl (Or.inl ⟨rfl, rfl⟩) rfl rfl (Nat.le_of_ble_eq_true rfl) (Nat.le_of_ble_eq_true rfl) (g_Ledger_size hv32) (f_Ledger_size sp d N S1 q30 _ hv32) ?_
              refine pE_weak [none, none, none] trivial ?_
              exact f_BP_count_89 sp d N v32 S31 _ h
          · rw [if_neg c17] at h
            by_cases c18 : p0 = 4
            · rw [if_pos c18] at h
              refine pE_nx (pc' := 90) (ls' := [some (.ref a), some (.int p0), some (.ref q2)]) (st' := []) (S' := S1) rfl (by rw [c18]; rfl) ?_
              refine pE_jump 3 (pc' := 99) (ls' := [some (.ref a), some (.int p0), some (.ref q2)]) (st' := [.ref q2]) (fun _ => rfl) ?_
              obtain ⟨oq27, hq27, h⟩ := obind h
              cases oq27 with
              | none => cases h
              | some q27 =>
                try dsimp only at h
                refine pE_gfS rfl rfl hq27 ?_
                obtain ⟨⟨v29, S28⟩, hv29, h⟩ := obind h
                try dsimp only at h
                refine pE_iv (Bs := []) (st := []) 1 rfl (Or.inl ⟨rfl, rfl⟩) rfl rfl (Nat.le_of_ble_eq_true rfl) (Nat.le_of_ble_eq_true rfl) (g_Ledger_size hv29) (f_Ledger_size sp d N S1 q27 _ hv29) ?_
                refine pE_weak [none, none, none] trivial ?_
                exact f_BP_count_105 sp d N v29 S28 _ h
            · rw [if_neg c18] at h
              by_cases c19 : p0 = 5
              · rw [if_pos c19] at h
                refine pE_nx (pc' := 106) (ls' := [some (.ref a), some (.int p0), some (.ref q2)]) (st' := []) (S' := S1) rfl (by rw [c19]; rfl) ?_
                refine pE_jump 3 (pc' := 115) (ls' := [some (.ref a), some (.int p0), some (.ref q2)]) (st' := [.ref q2]) (fun _ => rfl) ?_
                obtain ⟨oq24, hq24, h⟩ := obind h
                cases oq24 with
                | none => cases h
                | some q24 =>
                  try dsimp only at h
                  refine pE_gfS rfl rfl hq24 ?_
                  obtain ⟨⟨v26, S25⟩, hv26, h⟩ := obind h
                  try dsimp only at h
                  refine pE_iv (Bs := []) (st := []) 1 rfl (Or.inl ⟨rfl, rfl⟩) rfl rfl (Nat.le_of_ble_eq_true rfl) (Nat.le_of_ble_eq_true rfl) (g_Ledger_size hv26) (f_Ledger_size sp d N S1 q24 _ hv26) ?_
                  refine pE_weak [none, none, none] trivial ?_
                  exact f_BP_count_121 sp d N v26 S25 _ h
              · rw [if_neg c19] at h
                by_cases c20 : p0 = 6
                · rw [if_pos c20] at h
                  refine pE_nx (pc' := 122) (ls' := [some (.ref a), some (.int p0), some (.ref q2)]) (st' := []) (S' := S1) rfl (by rw [c20]; rfl) ?_
                  refine pE_jump 3 (pc' := 131) (ls' := [some (.ref a), some (.int p0), some (.ref q2)]) (st' := [.ref q2]) (fun _ => rfl) ?_
                  obtain ⟨oq21, hq21, h⟩ := obind h
                  cases oq21 with
                  | none => cases h
                  | some q21 =>
                    try dsimp only at h
                    refine pE_gfS rfl rfl hq21 ?_
                    obtain ⟨⟨v23, S22⟩, hv23, h⟩ := obind h
                    try dsimp only at h
                    refine pE_iv (Bs := []) (st := []) 1 rfl (Or.inl ⟨rfl, rfl⟩) rfl rfl (Nat.le_of_ble_eq_true rfl) (Nat.le_of_ble_eq_true rfl) (g_Ledger_size hv23) (f_Ledger_size sp d N S1 q21 _ hv23) ?_
                    refine pE_weak [none, none, none] trivial ?_
                    exact f_BP_count_137 sp d N v23 S22 _ h
                · rw [if_neg c20] at h
                  refine pE_swD (pc' := 138) rfl (pm_swd6 c14 c15 c16 c17 c18 c19 c20) (by decide) rfl ?_
                  refine pE_jump 1 (pc' := 139) (ls' := [some (.ref a), some (.int p0), some (.ref q2)]) (st' := [.int (-1)]) (fun _ => rfl) ?_
                  cases h
                  exact pE_ret rfl rfl rfl
def F_BP_cable (N : Nat) (S : pm_S) (a : Nat) (p0 : Int32) (p1 : Int32) (p2 : Int32) : Option (Int32 × pm_S) :=
    if rcv S a 10 = true then
    ((F_BP_planAt N S a p0).bind fun (oq2, S1) => match oq2 with
    | none => none
    | some q2 =>
    (F_Plan_hasCable N S1 q2 p1).bind fun (v4, S3) =>
    if v4 = 0 then
    none
    else
    (if p2 < 0 then
    none
    else
    (if p2 ≤ 3 then
    ((oR S3 q2 4 1).bind fun oq5 => match oq5 with
    | none => none
    | some q5 =>
    (F_Ledger_at N S3 q5 p1 p2).bind fun (v7, S6) =>
    some (v7, S6))
    else
    none)))
    else none
theorem g_BP_cable {N : Nat} {S : pm_S} {a : Nat} {p0 : Int32} {p1 : Int32} {p2 : Int32} {r : (Int32 × pm_S)} (h : F_BP_cable N S a p0 p1 p2 = some r) : rcv S a 10 = true := by
  unfold F_BP_cable at h
  by_cases c : rcv S a 10 = true
  · exact c
  · rw [if_neg c] at h; cases h
set_option maxHeartbeats 4000000 in
set_option maxRecDepth 20000 in
theorem f_BP_cable (sp : pm_I → List Value → pm_S → pm_O → Prop) (d N : Nat) (S : pm_S) (a : Nat) (p0 : Int32) (p1 : Int32) (p2 : Int32) (r : (Int32 × pm_S)) (h : F_BP_cable N S a p0 p1 p2 = some r) : pm_rel pG sp (d + 3) mi_BP_cable [.ref a, .int p0, .int p1, .int p2] S (some (.int r.1), r.2) := by
  have hg := g_BP_cable h
  unfold F_BP_cable at h
  rw [if_pos hg] at h
  refine pE_rel (d := d + 2) ?_
  show pmE pG _ mi_BP_cable 0 [some (.ref a), some (.int p0), some (.int p1), some (.int p2), none] [] S _
  refine pE_jump 2 (pc' := 2) (ls' := [some (.ref a), some (.int p0), some (.int p1), some (.int p2), none]) (st' := [.int p0, .ref a]) (fun _ => rfl) ?_
  obtain ⟨⟨oq2, S1⟩, hq2, h⟩ := obind h
  try dsimp only at h
  cases oq2 with
  | none => cases h
  | some q2 =>
    try dsimp only at h
    refine pE_iv (Bs := [.int p0]) (st := []) 1 rfl (Or.inl ⟨rfl, rfl⟩) rfl rfl (Nat.le_of_ble_eq_true rfl) (Nat.le_of_ble_eq_true rfl) (g_BP_planAt hq2) (f_BP_planAt sp (d + 1) N S a p0 _ hq2) ?_
    refine pE_jump 5 (pc' := 15) (ls' := [some (.ref a), some (.int p0), some (.int p1), some (.int p2), some (.ref q2)]) (st' := [.int p1, .ref q2]) (fun _ => rfl) ?_
    obtain ⟨⟨v4, S3⟩, hv4, h⟩ := obind h
    try dsimp only at h
    refine pE_iv (Bs := [.int p1]) (st := []) 1 rfl (Or.inl ⟨rfl, rfl⟩) rfl rfl (Nat.le_of_ble_eq_true rfl) (Nat.le_of_ble_eq_true rfl) (g_Plan_hasCable hv4) (f_Plan_hasCable sp d N S1 q2 p1 _ hv4) ?_
    refine pE_br (v4 = 0) rfl rfl (fun c10 => ?_) (fun c10 => ?_)
    · rw [if_pos c10] at h
      refine pE_weak [none, none, none, none, none] trivial ?_
      cases h
    · rw [if_neg c10] at h
      refine pE_jump 1 (pc' := 22) (ls' := [some (.ref a), some (.int p0), some (.int p1), some (.int p2), some (.ref q2)]) (st' := [.int p2]) (fun _ => rfl) ?_
      refine pE_br (p2 < 0) rfl rfl (fun c9 => ?_) (fun c9 => ?_)
      · rw [if_pos c9] at h
        refine pE_weak [none, none, none, none, none] trivial ?_
        cases h
      · rw [if_neg c9] at h
        refine pE_jump 2 (pc' := 27) (ls' := [some (.ref a), some (.int p0), some (.int p1), some (.int p2), some (.ref q2)]) (st' := [.int 3, .int p2]) (fun _ => rfl) ?_
        refine pE_br (p2 ≤ 3) rfl rfl (fun c8 => ?_) (fun c8 => ?_)
        · rw [if_pos c8] at h
          refine pE_jump 1 (pc' := 40) (ls' := [some (.ref a), some (.int p0), some (.int p1), some (.int p2), some (.ref q2)]) (st' := [.ref q2]) (fun _ => rfl) ?_
          obtain ⟨oq5, hq5, h⟩ := obind h
          cases oq5 with
          | none => cases h
          | some q5 =>
            try dsimp only at h
            refine pE_gfS rfl rfl hq5 ?_
            refine pE_jump 2 (pc' := 45) (ls' := [some (.ref a), some (.int p0), some (.int p1), some (.int p2), some (.ref q2)]) (st' := [.int p2, .int p1, .ref q5]) (fun _ => rfl) ?_
            obtain ⟨⟨v7, S6⟩, hv7, h⟩ := obind h
            try dsimp only at h
            refine pE_iv (Bs := [.int p1, .int p2]) (st := []) 1 rfl (Or.inl ⟨rfl, rfl⟩) rfl rfl (Nat.le_of_ble_eq_true rfl) (Nat.le_of_ble_eq_true rfl) (g_Ledger_at hv7) (f_Ledger_at sp (d + 1) N S3 q5 p1 p2 _ hv7) ?_
            cases h
            exact pE_ret rfl rfl rfl
        · rw [if_neg c8] at h
          refine pE_weak [none, none, none, none, none] trivial ?_
          cases h
def F_M_init (N : Nat) (S : pm_S) (a : Nat) : Option pm_S :=
    if rcv S a 11 = true then
    (if pm_my S a = true then
    ((nA S 2 300).bind fun (q2, S3) =>
    (wF S3 a 11 1 (.array .byte) (.ref q2)).bind fun S4 =>
    (nA S4 0 7).bind fun (q5, S6) =>
    (wF S6 a 11 6 (.array .int) (.ref q5)).bind fun S7 =>
    (nA S7 0 7).bind fun (q8, S9) =>
    (wF S9 a 11 7 (.array .int) (.ref q8)).bind fun S10 =>
    (nA S10 0 49).bind fun (q11, S12) =>
    (wF S12 a 11 8 (.array .int) (.ref q11)).bind fun S13 =>
    (nA S13 0 49).bind fun (q14, S15) =>
    (wF S15 a 11 9 (.array .int) (.ref q14)).bind fun S16 =>
    (nA S16 0 49).bind fun (q17, S18) =>
    (wF S18 a 11 10 (.array .int) (.ref q17)).bind fun S19 =>
    (nA S19 0 49).bind fun (q20, S21) =>
    (wF S21 a 11 11 (.array .int) (.ref q20)).bind fun S22 =>
    (nA S22 0 7).bind fun (q23, S24) =>
    (wF S24 a 11 12 (.array .int) (.ref q23)).bind fun S25 =>
    (nA S25 0 420).bind fun (q26, S27) =>
    (wF S27 a 11 13 (.array .int) (.ref q26)).bind fun S28 =>
    (nA S28 0 420).bind fun (q29, S30) =>
    (wF S30 a 11 14 (.array .int) (.ref q29)).bind fun S31 =>
    (nA S31 0 420).bind fun (q32, S33) =>
    (wF S33 a 11 15 (.array .int) (.ref q32)).bind fun S34 =>
    (nA S34 0 420).bind fun (q35, S36) =>
    (wF S36 a 11 16 (.array .int) (.ref q35)).bind fun S37 =>
    (nA S37 0 420).bind fun (q38, S39) =>
    (wF S39 a 11 17 (.array .int) (.ref q38)).bind fun S40 =>
    (nA S40 0 7).bind fun (q41, S42) =>
    (wF S42 a 11 18 (.array .int) (.ref q41)).bind fun S43 =>
    (nA S43 0 7).bind fun (q44, S45) =>
    (wF S45 a 11 20 (.array .int) (.ref q44)).bind fun S46 =>
    (nA S46 0 60).bind fun (q47, S48) =>
    (wF S48 a 11 21 (.array .int) (.ref q47)).bind fun S49 =>
    (nA S49 0 60).bind fun (q50, S51) =>
    (wF S51 a 11 22 (.array .int) (.ref q50)).bind fun S52 =>
    (nA S52 0 60).bind fun (q53, S54) =>
    (wF S54 a 11 23 (.array .int) (.ref q53)).bind fun S55 =>
    (nA S55 0 60).bind fun (q56, S57) =>
    (wF S57 a 11 24 (.array .int) (.ref q56)).bind fun S58 =>
    (nA S58 0 60).bind fun (q59, S60) =>
    (wF S60 a 11 25 (.array .int) (.ref q59)).bind fun S61 =>
    (nA S61 0 42).bind fun (q62, S63) =>
    (wF S63 a 11 26 (.array .int) (.ref q62)).bind fun S64 =>
    (nA S64 0 42).bind fun (q65, S66) =>
    (wF S66 a 11 27 (.array .int) (.ref q65)).bind fun S67 =>
    (nA S67 0 42).bind fun (q68, S69) =>
    (wF S69 a 11 28 (.array .int) (.ref q68)).bind fun S70 =>
    (nA S70 3 462).bind fun (q71, S72) =>
    (wF S72 a 11 35 (.array .boolean) (.ref q71)).bind fun S73 =>
    (nA S73 1 10).bind fun (q74, S75) =>
    (wF S75 a 11 36 (.array .long) (.ref q74)).bind fun S76 =>
    (nA S76 0 7).bind fun (q77, S78) =>
    (wF S78 a 11 37 (.array .int) (.ref q77)).bind fun S79 =>
    (nA S79 0 72).bind fun (q80, S81) =>
    (wF S81 a 11 38 (.array .int) (.ref q80)).bind fun S82 =>
    (nA S82 0 72).bind fun (q83, S84) =>
    (wF S84 a 11 39 (.array .int) (.ref q83)).bind fun S85 =>
    (nA S85 0 72).bind fun (q86, S87) =>
    (wF S87 a 11 40 (.array .int) (.ref q86)).bind fun S88 =>
    (nA S88 0 72).bind fun (q89, S90) =>
    (wF S90 a 11 41 (.array .int) (.ref q89)).bind fun S91 =>
    (nA S91 0 72).bind fun (q92, S93) =>
    (wF S93 a 11 42 (.array .int) (.ref q92)).bind fun S94 =>
    (nA S94 0 72).bind fun (q95, S96) =>
    (wF S96 a 11 43 (.array .int) (.ref q95)).bind fun S97 =>
    (nA S97 0 7).bind fun (q98, S99) =>
    (wF S99 a 11 44 (.array .int) (.ref q98)).bind fun S100 =>
    (nA S100 0 144).bind fun (q101, S102) =>
    (wF S102 a 11 45 (.array .int) (.ref q101)).bind fun S103 =>
    (nA S103 0 144).bind fun (q104, S105) =>
    (wF S105 a 11 46 (.array .int) (.ref q104)).bind fun S106 =>
    (nA S106 3 144).bind fun (q107, S108) =>
    (wF S108 a 11 47 (.array .boolean) (.ref q107)).bind fun S109 =>
    (nA S109 3 1024).bind fun (q110, S111) =>
    (wF S111 a 11 48 (.array .boolean) (.ref q110)).bind fun S112 =>
    (nA S112 0 1024).bind fun (q113, S114) =>
    (wF S114 a 11 49 (.array .int) (.ref q113)).bind fun S115 =>
    (nA S115 0 1024).bind fun (q116, S117) =>
    (wF S117 a 11 50 (.array .int) (.ref q116)).bind fun S118 =>
    (nA S118 0 70).bind fun (q119, S120) =>
    (wF S120 a 11 53 (.array .int) (.ref q119)).bind fun S121 =>
    (nA S121 3 6).bind fun (q122, S123) =>
    (wF S123 a 11 54 (.array .boolean) (.ref q122)).bind fun S124 =>
    (nA S124 3 10).bind fun (q125, S126) =>
    (wF S126 a 11 55 (.array .boolean) (.ref q125)).bind fun S127 =>
    (nA S127 0 26).bind fun (q128, S129) =>
    (wF S129 a 11 56 (.array .int) (.ref q128)).bind fun S130 =>
    some S130)
    else none)
    else none
theorem g_M_init {N : Nat} {S : pm_S} {a : Nat} {r : pm_S} (h : F_M_init N S a = some r) : rcv S a 11 = true := by
  unfold F_M_init at h
  by_cases c : rcv S a 11 = true
  · exact c
  · rw [if_neg c] at h; cases h
set_option maxHeartbeats 4000000 in
set_option maxRecDepth 20000 in
theorem f_M_init (sp : pm_I → List Value → pm_S → pm_O → Prop) (d N : Nat) (S : pm_S) (a : Nat) (r : pm_S) (h : F_M_init N S a = some r) : pm_rel pG sp (d + 1) mi_M_init [.ref a] S (none, r) := by
  have hg := g_M_init h
  unfold F_M_init at h
  rw [if_pos hg] at h
  refine pE_rel (d := d + 0) ?_
  show pmE pG _ mi_M_init 0 [some (.ref a)] [] S _
  refine pE_jump 1 (pc' := 1) (ls' := [some (.ref a)]) (st' := [.ref a]) (fun _ => rfl) ?_
  by_cases c1 : pm_my S a = true
  case neg => rw [if_neg c1] at h; cases h
  rw [if_pos c1] at h
  refine pE_obj rfl rfl (Nat.le_of_ble_eq_true rfl) c1 ?_
  refine pE_jump 2 (pc' := 8) (ls' := [some (.ref a)]) (st' := [.int 300, .ref a]) (fun _ => rfl) ?_
  obtain ⟨⟨q2, S3⟩, hq2, h⟩ := obind h
  refine pE_nA rfl rfl hq2 ?_
  try dsimp only at h
  obtain ⟨S4, hS4, h⟩ := obind h
  refine pE_pf rfl rfl rfl hS4 ?_
  refine pE_jump 2 (pc' := 16) (ls' := [some (.ref a)]) (st' := [.int 7, .ref a]) (fun _ => rfl) ?_
  obtain ⟨⟨q5, S6⟩, hq5, h⟩ := obind h
  refine pE_nA rfl rfl hq5 ?_
  try dsimp only at h
  obtain ⟨S7, hS7, h⟩ := obind h
  refine pE_pf rfl rfl rfl hS7 ?_
  refine pE_jump 2 (pc' := 24) (ls' := [some (.ref a)]) (st' := [.int 7, .ref a]) (fun _ => rfl) ?_
  obtain ⟨⟨q8, S9⟩, hq8, h⟩ := obind h
  refine pE_nA rfl rfl hq8 ?_
  try dsimp only at h
  obtain ⟨S10, hS10, h⟩ := obind h
  refine pE_pf rfl rfl rfl hS10 ?_
  refine pE_jump 2 (pc' := 32) (ls' := [some (.ref a)]) (st' := [.int 49, .ref a]) (fun _ => rfl) ?_
  obtain ⟨⟨q11, S12⟩, hq11, h⟩ := obind h
  refine pE_nA rfl rfl hq11 ?_
  try dsimp only at h
  obtain ⟨S13, hS13, h⟩ := obind h
  refine pE_pf rfl rfl rfl hS13 ?_
  refine pE_jump 2 (pc' := 40) (ls' := [some (.ref a)]) (st' := [.int 49, .ref a]) (fun _ => rfl) ?_
  obtain ⟨⟨q14, S15⟩, hq14, h⟩ := obind h
  refine pE_nA rfl rfl hq14 ?_
  try dsimp only at h
  obtain ⟨S16, hS16, h⟩ := obind h
  refine pE_pf rfl rfl rfl hS16 ?_
  refine pE_jump 2 (pc' := 48) (ls' := [some (.ref a)]) (st' := [.int 49, .ref a]) (fun _ => rfl) ?_
  obtain ⟨⟨q17, S18⟩, hq17, h⟩ := obind h
  refine pE_nA rfl rfl hq17 ?_
  try dsimp only at h
  obtain ⟨S19, hS19, h⟩ := obind h
  refine pE_pf rfl rfl rfl hS19 ?_
  refine pE_jump 2 (pc' := 56) (ls' := [some (.ref a)]) (st' := [.int 49, .ref a]) (fun _ => rfl) ?_
  obtain ⟨⟨q20, S21⟩, hq20, h⟩ := obind h
  refine pE_nA rfl rfl hq20 ?_
  try dsimp only at h
  obtain ⟨S22, hS22, h⟩ := obind h
  refine pE_pf rfl rfl rfl hS22 ?_
  refine pE_jump 2 (pc' := 64) (ls' := [some (.ref a)]) (st' := [.int 7, .ref a]) (fun _ => rfl) ?_
  obtain ⟨⟨q23, S24⟩, hq23, h⟩ := obind h
  refine pE_nA rfl rfl hq23 ?_
  try dsimp only at h
  obtain ⟨S25, hS25, h⟩ := obind h
  refine pE_pf rfl rfl rfl hS25 ?_
  refine pE_jump 2 (pc' := 73) (ls' := [some (.ref a)]) (st' := [.int 420, .ref a]) (fun _ => rfl) ?_
  obtain ⟨⟨q26, S27⟩, hq26, h⟩ := obind h
  refine pE_nA rfl rfl hq26 ?_
  try dsimp only at h
  obtain ⟨S28, hS28, h⟩ := obind h
  refine pE_pf rfl rfl rfl hS28 ?_
  refine pE_jump 2 (pc' := 82) (ls' := [some (.ref a)]) (st' := [.int 420, .ref a]) (fun _ => rfl) ?_
  obtain ⟨⟨q29, S30⟩, hq29, h⟩ := obind h
  refine pE_nA rfl rfl hq29 ?_
  try dsimp only at h
  obtain ⟨S31, hS31, h⟩ := obind h
  refine pE_pf rfl rfl rfl hS31 ?_
  refine pE_jump 2 (pc' := 91) (ls' := [some (.ref a)]) (st' := [.int 420, .ref a]) (fun _ => rfl) ?_
  obtain ⟨⟨q32, S33⟩, hq32, h⟩ := obind h
  refine pE_nA rfl rfl hq32 ?_
  try dsimp only at h
  obtain ⟨S34, hS34, h⟩ := obind h
  refine pE_pf rfl rfl rfl hS34 ?_
  refine pE_jump 2 (pc' := 100) (ls' := [some (.ref a)]) (st' := [.int 420, .ref a]) (fun _ => rfl) ?_
  obtain ⟨⟨q35, S36⟩, hq35, h⟩ := obind h
  refine pE_nA rfl rfl hq35 ?_
  try dsimp only at h
  obtain ⟨S37, hS37, h⟩ := obind h
  refine pE_pf rfl rfl rfl hS37 ?_
  refine pE_jump 2 (pc' := 109) (ls' := [some (.ref a)]) (st' := [.int 420, .ref a]) (fun _ => rfl) ?_
  obtain ⟨⟨q38, S39⟩, hq38, h⟩ := obind h
  refine pE_nA rfl rfl hq38 ?_
  try dsimp only at h
  obtain ⟨S40, hS40, h⟩ := obind h
  refine pE_pf rfl rfl rfl hS40 ?_
  refine pE_jump 2 (pc' := 117) (ls' := [some (.ref a)]) (st' := [.int 7, .ref a]) (fun _ => rfl) ?_
  obtain ⟨⟨q41, S42⟩, hq41, h⟩ := obind h
  refine pE_nA rfl rfl hq41 ?_
  try dsimp only at h
  obtain ⟨S43, hS43, h⟩ := obind h
  refine pE_pf rfl rfl rfl hS43 ?_
  refine pE_jump 2 (pc' := 125) (ls' := [some (.ref a)]) (st' := [.int 7, .ref a]) (fun _ => rfl) ?_
  obtain ⟨⟨q44, S45⟩, hq44, h⟩ := obind h
  refine pE_nA rfl rfl hq44 ?_
  try dsimp only at h
  obtain ⟨S46, hS46, h⟩ := obind h
  refine pE_pf rfl rfl rfl hS46 ?_
  refine pE_jump 2 (pc' := 133) (ls' := [some (.ref a)]) (st' := [.int 60, .ref a]) (fun _ => rfl) ?_
  obtain ⟨⟨q47, S48⟩, hq47, h⟩ := obind h
  refine pE_nA rfl rfl hq47 ?_
  try dsimp only at h
  obtain ⟨S49, hS49, h⟩ := obind h
  refine pE_pf rfl rfl rfl hS49 ?_
  refine pE_jump 2 (pc' := 141) (ls' := [some (.ref a)]) (st' := [.int 60, .ref a]) (fun _ => rfl) ?_
  obtain ⟨⟨q50, S51⟩, hq50, h⟩ := obind h
  refine pE_nA rfl rfl hq50 ?_
  try dsimp only at h
  obtain ⟨S52, hS52, h⟩ := obind h
  refine pE_pf rfl rfl rfl hS52 ?_
  refine pE_jump 2 (pc' := 149) (ls' := [some (.ref a)]) (st' := [.int 60, .ref a]) (fun _ => rfl) ?_
  obtain ⟨⟨q53, S54⟩, hq53, h⟩ := obind h
  refine pE_nA rfl rfl hq53 ?_
  try dsimp only at h
  obtain ⟨S55, hS55, h⟩ := obind h
  refine pE_pf rfl rfl rfl hS55 ?_
  refine pE_jump 2 (pc' := 157) (ls' := [some (.ref a)]) (st' := [.int 60, .ref a]) (fun _ => rfl) ?_
  obtain ⟨⟨q56, S57⟩, hq56, h⟩ := obind h
  refine pE_nA rfl rfl hq56 ?_
  try dsimp only at h
  obtain ⟨S58, hS58, h⟩ := obind h
  refine pE_pf rfl rfl rfl hS58 ?_
  refine pE_jump 2 (pc' := 165) (ls' := [some (.ref a)]) (st' := [.int 60, .ref a]) (fun _ => rfl) ?_
  obtain ⟨⟨q59, S60⟩, hq59, h⟩ := obind h
  refine pE_nA rfl rfl hq59 ?_
  try dsimp only at h
  obtain ⟨S61, hS61, h⟩ := obind h
  refine pE_pf rfl rfl rfl hS61 ?_
  refine pE_jump 2 (pc' := 173) (ls' := [some (.ref a)]) (st' := [.int 42, .ref a]) (fun _ => rfl) ?_
  obtain ⟨⟨q62, S63⟩, hq62, h⟩ := obind h
  refine pE_nA rfl rfl hq62 ?_
  try dsimp only at h
  obtain ⟨S64, hS64, h⟩ := obind h
  refine pE_pf rfl rfl rfl hS64 ?_
  refine pE_jump 2 (pc' := 181) (ls' := [some (.ref a)]) (st' := [.int 42, .ref a]) (fun _ => rfl) ?_
  obtain ⟨⟨q65, S66⟩, hq65, h⟩ := obind h
  refine pE_nA rfl rfl hq65 ?_
  try dsimp only at h
  obtain ⟨S67, hS67, h⟩ := obind h
  refine pE_pf rfl rfl rfl hS67 ?_
  refine pE_jump 2 (pc' := 189) (ls' := [some (.ref a)]) (st' := [.int 42, .ref a]) (fun _ => rfl) ?_
  obtain ⟨⟨q68, S69⟩, hq68, h⟩ := obind h
  refine pE_nA rfl rfl hq68 ?_
  try dsimp only at h
  obtain ⟨S70, hS70, h⟩ := obind h
  refine pE_pf rfl rfl rfl hS70 ?_
  refine pE_jump 2 (pc' := 198) (ls' := [some (.ref a)]) (st' := [.int 462, .ref a]) (fun _ => rfl) ?_
  obtain ⟨⟨q71, S72⟩, hq71, h⟩ := obind h
  refine pE_nA rfl rfl hq71 ?_
  try dsimp only at h
  obtain ⟨S73, hS73, h⟩ := obind h
  refine pE_pf rfl rfl rfl hS73 ?_
  refine pE_jump 2 (pc' := 206) (ls' := [some (.ref a)]) (st' := [.int 10, .ref a]) (fun _ => rfl) ?_
  obtain ⟨⟨q74, S75⟩, hq74, h⟩ := obind h
  refine pE_nA rfl rfl hq74 ?_
  try dsimp only at h
  obtain ⟨S76, hS76, h⟩ := obind h
  refine pE_pf rfl rfl rfl hS76 ?_
  refine pE_jump 2 (pc' := 214) (ls' := [some (.ref a)]) (st' := [.int 7, .ref a]) (fun _ => rfl) ?_
  obtain ⟨⟨q77, S78⟩, hq77, h⟩ := obind h
  refine pE_nA rfl rfl hq77 ?_
  try dsimp only at h
  obtain ⟨S79, hS79, h⟩ := obind h
  refine pE_pf rfl rfl rfl hS79 ?_
  refine pE_jump 2 (pc' := 222) (ls' := [some (.ref a)]) (st' := [.int 72, .ref a]) (fun _ => rfl) ?_
  obtain ⟨⟨q80, S81⟩, hq80, h⟩ := obind h
  refine pE_nA rfl rfl hq80 ?_
  try dsimp only at h
  obtain ⟨S82, hS82, h⟩ := obind h
  refine pE_pf rfl rfl rfl hS82 ?_
  refine pE_jump 2 (pc' := 230) (ls' := [some (.ref a)]) (st' := [.int 72, .ref a]) (fun _ => rfl) ?_
  obtain ⟨⟨q83, S84⟩, hq83, h⟩ := obind h
  refine pE_nA rfl rfl hq83 ?_
  try dsimp only at h
  obtain ⟨S85, hS85, h⟩ := obind h
  refine pE_pf rfl rfl rfl hS85 ?_
  refine pE_jump 2 (pc' := 238) (ls' := [some (.ref a)]) (st' := [.int 72, .ref a]) (fun _ => rfl) ?_
  obtain ⟨⟨q86, S87⟩, hq86, h⟩ := obind h
  refine pE_nA rfl rfl hq86 ?_
  try dsimp only at h
  obtain ⟨S88, hS88, h⟩ := obind h
  refine pE_pf rfl rfl rfl hS88 ?_
  refine pE_jump 2 (pc' := 246) (ls' := [some (.ref a)]) (st' := [.int 72, .ref a]) (fun _ => rfl) ?_
  obtain ⟨⟨q89, S90⟩, hq89, h⟩ := obind h
  refine pE_nA rfl rfl hq89 ?_
  try dsimp only at h
  obtain ⟨S91, hS91, h⟩ := obind h
  refine pE_pf rfl rfl rfl hS91 ?_
  refine pE_jump 2 (pc' := 254) (ls' := [some (.ref a)]) (st' := [.int 72, .ref a]) (fun _ => rfl) ?_
  obtain ⟨⟨q92, S93⟩, hq92, h⟩ := obind h
  refine pE_nA rfl rfl hq92 ?_
  try dsimp only at h
  obtain ⟨S94, hS94, h⟩ := obind h
  refine pE_pf rfl rfl rfl hS94 ?_
  refine pE_jump 2 (pc' := 262) (ls' := [some (.ref a)]) (st' := [.int 72, .ref a]) (fun _ => rfl) ?_
  obtain ⟨⟨q95, S96⟩, hq95, h⟩ := obind h
  refine pE_nA rfl rfl hq95 ?_
  try dsimp only at h
  obtain ⟨S97, hS97, h⟩ := obind h
  refine pE_pf rfl rfl rfl hS97 ?_
  refine pE_jump 2 (pc' := 270) (ls' := [some (.ref a)]) (st' := [.int 7, .ref a]) (fun _ => rfl) ?_
  obtain ⟨⟨q98, S99⟩, hq98, h⟩ := obind h
  refine pE_nA rfl rfl hq98 ?_
  try dsimp only at h
  obtain ⟨S100, hS100, h⟩ := obind h
  refine pE_pf rfl rfl rfl hS100 ?_
  refine pE_jump 2 (pc' := 279) (ls' := [some (.ref a)]) (st' := [.int 144, .ref a]) (fun _ => rfl) ?_
  obtain ⟨⟨q101, S102⟩, hq101, h⟩ := obind h
  refine pE_nA rfl rfl hq101 ?_
  try dsimp only at h
  obtain ⟨S103, hS103, h⟩ := obind h
  refine pE_pf rfl rfl rfl hS103 ?_
  refine pE_jump 2 (pc' := 288) (ls' := [some (.ref a)]) (st' := [.int 144, .ref a]) (fun _ => rfl) ?_
  obtain ⟨⟨q104, S105⟩, hq104, h⟩ := obind h
  refine pE_nA rfl rfl hq104 ?_
  try dsimp only at h
  obtain ⟨S106, hS106, h⟩ := obind h
  refine pE_pf rfl rfl rfl hS106 ?_
  refine pE_jump 2 (pc' := 297) (ls' := [some (.ref a)]) (st' := [.int 144, .ref a]) (fun _ => rfl) ?_
  obtain ⟨⟨q107, S108⟩, hq107, h⟩ := obind h
  refine pE_nA rfl rfl hq107 ?_
  try dsimp only at h
  obtain ⟨S109, hS109, h⟩ := obind h
  refine pE_pf rfl rfl rfl hS109 ?_
  refine pE_jump 2 (pc' := 306) (ls' := [some (.ref a)]) (st' := [.int 1024, .ref a]) (fun _ => rfl) ?_
  obtain ⟨⟨q110, S111⟩, hq110, h⟩ := obind h
  refine pE_nA rfl rfl hq110 ?_
  try dsimp only at h
  obtain ⟨S112, hS112, h⟩ := obind h
  refine pE_pf rfl rfl rfl hS112 ?_
  refine pE_jump 2 (pc' := 315) (ls' := [some (.ref a)]) (st' := [.int 1024, .ref a]) (fun _ => rfl) ?_
  obtain ⟨⟨q113, S114⟩, hq113, h⟩ := obind h
  refine pE_nA rfl rfl hq113 ?_
  try dsimp only at h
  obtain ⟨S115, hS115, h⟩ := obind h
  refine pE_pf rfl rfl rfl hS115 ?_
  refine pE_jump 2 (pc' := 324) (ls' := [some (.ref a)]) (st' := [.int 1024, .ref a]) (fun _ => rfl) ?_
  obtain ⟨⟨q116, S117⟩, hq116, h⟩ := obind h
  refine pE_nA rfl rfl hq116 ?_
  try dsimp only at h
  obtain ⟨S118, hS118, h⟩ := obind h
  refine pE_pf rfl rfl rfl hS118 ?_
  refine pE_jump 2 (pc' := 332) (ls' := [some (.ref a)]) (st' := [.int 70, .ref a]) (fun _ => rfl) ?_
  obtain ⟨⟨q119, S120⟩, hq119, h⟩ := obind h
  refine pE_nA rfl rfl hq119 ?_
  try dsimp only at h
  obtain ⟨S121, hS121, h⟩ := obind h
  refine pE_pf rfl rfl rfl hS121 ?_
  refine pE_jump 2 (pc' := 340) (ls' := [some (.ref a)]) (st' := [.int 6, .ref a]) (fun _ => rfl) ?_
  obtain ⟨⟨q122, S123⟩, hq122, h⟩ := obind h
  refine pE_nA rfl rfl hq122 ?_
  try dsimp only at h
  obtain ⟨S124, hS124, h⟩ := obind h
  refine pE_pf rfl rfl rfl hS124 ?_
  refine pE_jump 2 (pc' := 348) (ls' := [some (.ref a)]) (st' := [.int 10, .ref a]) (fun _ => rfl) ?_
  obtain ⟨⟨q125, S126⟩, hq125, h⟩ := obind h
  refine pE_nA rfl rfl hq125 ?_
  try dsimp only at h
  obtain ⟨S127, hS127, h⟩ := obind h
  refine pE_pf rfl rfl rfl hS127 ?_
  refine pE_jump 2 (pc' := 356) (ls' := [some (.ref a)]) (st' := [.int 26, .ref a]) (fun _ => rfl) ?_
  obtain ⟨⟨q128, S129⟩, hq128, h⟩ := obind h
  refine pE_nA rfl rfl hq128 ?_
  try dsimp only at h
  obtain ⟨S130, hS130, h⟩ := obind h
  refine pE_pf rfl rfl rfl hS130 ?_
  cases h
  exact pE_ret rfl rfl rfl
def F_M_thrown (N : Nat) (S : pm_S) (a : Nat) : Option (Int32 × pm_S) :=
    if rcv S a 11 = true then
    ((oI S a 11 0).bind fun v1 =>
    some (v1, S))
    else none
theorem g_M_thrown {N : Nat} {S : pm_S} {a : Nat} {r : (Int32 × pm_S)} (h : F_M_thrown N S a = some r) : rcv S a 11 = true := by
  unfold F_M_thrown at h
  by_cases c : rcv S a 11 = true
  · exact c
  · rw [if_neg c] at h; cases h
set_option maxHeartbeats 4000000 in
set_option maxRecDepth 20000 in
theorem f_M_thrown (sp : pm_I → List Value → pm_S → pm_O → Prop) (d N : Nat) (S : pm_S) (a : Nat) (r : (Int32 × pm_S)) (h : F_M_thrown N S a = some r) : pm_rel pG sp (d + 1) mi_M_thrown [.ref a] S (some (.int r.1), r.2) := by
  have hg := g_M_thrown h
  unfold F_M_thrown at h
  rw [if_pos hg] at h
  refine pE_rel (d := d + 0) ?_
  show pmE pG _ mi_M_thrown 0 [some (.ref a)] [] S _
  refine pE_jump 1 (pc' := 1) (ls' := [some (.ref a)]) (st' := [.ref a]) (fun _ => rfl) ?_
  obtain ⟨v1, hv1, h⟩ := obind h
  refine pE_gfI rfl rfl hv1 ?_
  cases h
  exact pE_ret rfl rfl rfl
def F_M_bytesIn_33 (N : Nat)  (x1 : Int32) (S : pm_S) : Option (Int32 × pm_S) :=
    some (x1, S)
set_option maxHeartbeats 4000000 in
set_option maxRecDepth 20000 in
theorem f_M_bytesIn_33 (sp : pm_I → List Value → pm_S → pm_O → Prop) (d N : Nat)  (x1 : Int32) (S : pm_S)  (r : (Int32 × pm_S)) (h : F_M_bytesIn_33 N  x1 S = some r) : pmE pG (pm_rel pG sp (d + 0)) mi_M_bytesIn 33 [none, some (.int x1), none] [] S (some (.int r.1), r.2) := by
  unfold F_M_bytesIn_33 at h
  refine pE_jump 1 (pc' := 34) (ls' := [none, some (.int x1), none]) (st' := [.int x1]) (fun _ => rfl) ?_
  cases h
  exact pE_ret rfl rfl rfl
def F_M_bytesIn_25 (N : Nat) (rec5 : Int32 → Int32 → pm_S → Option (Int32 × pm_S)) (x0 : Int32) (x2 : Int32) (t0 : Int32) (t1 : Int32) (S : pm_S) : Option (Int32 × pm_S) :=
    rec5 (t1 + t0) (x2 + (-8)) S
set_option maxHeartbeats 4000000 in
set_option maxRecDepth 20000 in
theorem f_M_bytesIn_25 (sp : pm_I → List Value → pm_S → pm_O → Prop) (d N : Nat) (rec5 : Int32 → Int32 → pm_S → Option (Int32 × pm_S)) (x0 : Int32) (x2 : Int32) (t0 : Int32) (t1 : Int32) (S : pm_S) (hrec5 : ∀ (y1 : Int32) (y2 : Int32) (U : pm_S) (r : (Int32 × pm_S)), rec5 y1 y2 U = some r → pmE pG (pm_rel pG sp (d + 0)) mi_M_bytesIn 5 [some (.int x0), some (.int y1), some (.int y2)] [] U (some (.int r.1), r.2)) (r : (Int32 × pm_S)) (h : F_M_bytesIn_25 N rec5 x0 x2 t0 t1 S = some r) : pmE pG (pm_rel pG sp (d + 0)) mi_M_bytesIn 25 [some (.int x0), none, some (.int x2)] [.int t0, .int t1] S (some (.int r.1), r.2) := by
  unfold F_M_bytesIn_25 at h
  refine pE_jump 2 (pc' := 27) (ls' := [some (.int x0), some (.int (t1 + t0)), some (.int x2)]) (st' := []) (fun _ => rfl) ?_
  refine pE_iinc (y := -8) (ls' := [some (.int x0), some (.int (t1 + t0)), some (.int (x2 + (-8)))]) rfl rfl (Nat.le_of_ble_eq_true rfl) (by decide) rfl ?_
  refine pE_jump 1 (pc' := 5) (ls' := [some (.int x0), some (.int (t1 + t0)), some (.int (x2 + (-8)))]) (st' := []) (fun _ => rfl) ?_
  exact hrec5 (t1 + t0) (x2 + (-8)) S _ h
def B_M_bytesIn_5 (N : Nat)  (rec5 : Int32 → Int32 → pm_S → Option (Int32 × pm_S)) (x0 : Int32) (x1 : Int32) (x2 : Int32) (S : pm_S) : Option (Int32 × pm_S) :=
    if x2 < 0 then
    F_M_bytesIn_33 N x1 S
    else
    (if ((x0 >>> (x2 &&& 31)) &&& 255) = 0 then
    F_M_bytesIn_25 N rec5 x0 x2 0 x1 S
    else
    F_M_bytesIn_25 N rec5 x0 x2 1 x1 S)
def F_M_bytesIn_5 (N : Nat)  (x0 : Int32) : Nat → Int32 → Int32 → pm_S → Option (Int32 × pm_S)
  | 0 => fun _ _ _ => none
  | n + 1 => fun x1 x2 S => B_M_bytesIn_5 N  (F_M_bytesIn_5 N  x0 n) x0 x1 x2 S
set_option maxHeartbeats 4000000 in
set_option maxRecDepth 20000 in
theorem f_M_bytesIn_5 (sp : pm_I → List Value → pm_S → pm_O → Prop) (d N : Nat)  (x0 : Int32)  : ∀ (n : Nat) (x1 : Int32) (x2 : Int32) (S : pm_S) (r : (Int32 × pm_S)), F_M_bytesIn_5 N  x0 n x1 x2 S = some r → pmE pG (pm_rel pG sp (d + 0)) mi_M_bytesIn 5 [some (.int x0), some (.int x1), some (.int x2)] [] S (some (.int r.1), r.2) := by
  intro n
  induction n with
  | zero =>
    intro x1 x2 S r h
    cases h
  | succ n ih =>
    intro x1 x2 S r h
    replace h : B_M_bytesIn_5 N  (F_M_bytesIn_5 N  x0 n) x0 x1 x2 S = some r := h
    have hrec5 := ih
    generalize F_M_bytesIn_5 N  x0 n = rec5 at h hrec5
    unfold B_M_bytesIn_5 at h
    refine pE_jump 1 (pc' := 6) (ls' := [some (.int x0), some (.int x1), some (.int x2)]) (st' := [.int x2]) (fun _ => rfl) ?_
    refine pE_br (x2 < 0) rfl rfl (fun c2 => ?_) (fun c2 => ?_)
    · rw [if_pos c2] at h
      refine pE_weak [none, some (.int x1), none] ⟨rfl, trivial⟩ ?_
      exact f_M_bytesIn_33 sp d N x1 S _ h
    · rw [if_neg c2] at h
      refine pE_jump 6 (pc' := 17) (ls' := [some (.int x0), some (.int x1), some (.int x2)]) (st' := [.int ((x0 >>> (x2 &&& 31)) &&& 255), .int x1]) (fun _ => rfl) ?_
      refine pE_br (((x0 >>> (x2 &&& 31)) &&& 255) = 0) rfl rfl (fun c1 => ?_) (fun c1 => ?_)
      · rw [if_pos c1] at h
        refine pE_jump 1 (pc' := 25) (ls' := [some (.int x0), some (.int x1), some (.int x2)]) (st' := [.int 0, .int x1]) (fun _ => rfl) ?_
        refine pE_weak [some (.int x0), none, some (.int x2)] ⟨rfl, ⟨rfl, trivial⟩⟩ ?_
        exact f_M_bytesIn_25 sp d N rec5 x0 x2 0 x1 S hrec5 _ h
      · rw [if_neg c1] at h
        refine pE_jump 2 (pc' := 25) (ls' := [some (.int x0), some (.int x1), some (.int x2)]) (st' := [.int 1, .int x1]) (fun _ => rfl) ?_
        refine pE_weak [some (.int x0), none, some (.int x2)] ⟨rfl, ⟨rfl, trivial⟩⟩ ?_
        exact f_M_bytesIn_25 sp d N rec5 x0 x2 1 x1 S hrec5 _ h
def F_M_bytesIn (N : Nat) (S : pm_S) (p0 : Int32) : Option (Int32 × pm_S) :=
    F_M_bytesIn_5 N p0 N 0 24 S
set_option maxHeartbeats 4000000 in
set_option maxRecDepth 20000 in
theorem f_M_bytesIn (sp : pm_I → List Value → pm_S → pm_O → Prop) (d N : Nat) (S : pm_S) (p0 : Int32) (r : (Int32 × pm_S)) (h : F_M_bytesIn N S p0 = some r) : pm_rel pG sp (d + 1) mi_M_bytesIn [.int p0] S (some (.int r.1), r.2) := by
  unfold F_M_bytesIn at h
  refine pE_rel (d := d + 0) ?_
  show pmE pG _ mi_M_bytesIn 0 [some (.int p0), none, none] [] S _
  refine pE_jump 4 (pc' := 5) (ls' := [some (.int p0), some (.int 0), some (.int 24)]) (st' := []) (fun _ => rfl) ?_
  exact f_M_bytesIn_5 sp d N p0 N 0 24 S _ h
def F_M_put_49 (N : Nat)   (S : pm_S) : Option pm_S :=
    some S
set_option maxHeartbeats 4000000 in
set_option maxRecDepth 20000 in
theorem f_M_put_49 (sp : pm_I → List Value → pm_S → pm_O → Prop) (d N : Nat)   (S : pm_S)  (r : pm_S) (h : F_M_put_49 N   S = some r) : pmE pG (pm_rel pG sp (d + 0)) mi_M_put 49 [none, none, none] [] S (none, r) := by
  unfold F_M_put_49 at h
  cases h
  exact pE_ret rfl rfl rfl
def F_M_put_43 (N : Nat) (rec3 : Int32 → pm_S → Option pm_S) (x0 : Nat) (x1 : Int32) (x2 : Int32) (S : pm_S) : Option pm_S :=
    rec3 (x2 + (-8)) S
set_option maxHeartbeats 4000000 in
set_option maxRecDepth 20000 in
theorem f_M_put_43 (sp : pm_I → List Value → pm_S → pm_O → Prop) (d N : Nat) (rec3 : Int32 → pm_S → Option pm_S) (x0 : Nat) (x1 : Int32) (x2 : Int32) (S : pm_S) (hrec3 : ∀ (y1 : Int32) (U : pm_S) (r : pm_S), rec3 y1 U = some r → pmE pG (pm_rel pG sp (d + 0)) mi_M_put 3 [some (.ref x0), some (.int x1), some (.int y1)] [] U (none, r)) (r : pm_S) (h : F_M_put_43 N rec3 x0 x1 x2 S = some r) : pmE pG (pm_rel pG sp (d + 0)) mi_M_put 43 [some (.ref x0), some (.int x1), some (.int x2)] [] S (none, r) := by
  unfold F_M_put_43 at h
  refine pE_iinc (y := -8) (ls' := [some (.ref x0), some (.int x1), some (.int (x2 + (-8)))]) rfl rfl (Nat.le_of_ble_eq_true rfl) (by decide) rfl ?_
  refine pE_jump 1 (pc' := 3) (ls' := [some (.ref x0), some (.int x1), some (.int (x2 + (-8)))]) (st' := []) (fun _ => rfl) ?_
  exact hrec3 (x2 + (-8)) S _ h
def B_M_put_3 (N : Nat)  (rec3 : Int32 → pm_S → Option pm_S) (x0 : Nat) (x1 : Int32) (x2 : Int32) (S : pm_S) : Option pm_S :=
    if x2 < 0 then
    F_M_put_49 N S
    else
    (if ((x1 >>> (x2 &&& 31)) &&& 255) = 0 then
    F_M_put_43 N rec3 x0 x1 x2 S
    else
    ((oR S x0 11 1).bind fun oq1 => match oq1 with
    | none => none
    | some q1 =>
    (oI S x0 11 2).bind fun v3 =>
    (sI [2, 3] S q1 v3 ((Int32.toInt8 (x1 >>> (x2 &&& 31))).toInt32)).bind fun S4 =>
    (oI S4 x0 11 2).bind fun v5 =>
    (wF S4 x0 11 2 .int (.int (v5 + 1))).bind fun S6 =>
    F_M_put_43 N rec3 x0 x1 x2 S6))
def F_M_put_3 (N : Nat)  (x0 : Nat) (x1 : Int32) : Nat → Int32 → pm_S → Option pm_S
  | 0 => fun _ _ => none
  | n + 1 => fun x2 S => B_M_put_3 N  (F_M_put_3 N  x0 x1 n) x0 x1 x2 S
set_option maxHeartbeats 4000000 in
set_option maxRecDepth 20000 in
theorem f_M_put_3 (sp : pm_I → List Value → pm_S → pm_O → Prop) (d N : Nat)  (x0 : Nat) (x1 : Int32)  : ∀ (n : Nat) (x2 : Int32) (S : pm_S) (r : pm_S), F_M_put_3 N  x0 x1 n x2 S = some r → pmE pG (pm_rel pG sp (d + 0)) mi_M_put 3 [some (.ref x0), some (.int x1), some (.int x2)] [] S (none, r) := by
  intro n
  induction n with
  | zero =>
    intro x2 S r h
    cases h
  | succ n ih =>
    intro x2 S r h
    replace h : B_M_put_3 N  (F_M_put_3 N  x0 x1 n) x0 x1 x2 S = some r := h
    have hrec3 := ih
    generalize F_M_put_3 N  x0 x1 n = rec3 at h hrec3
    unfold B_M_put_3 at h
    refine pE_jump 1 (pc' := 4) (ls' := [some (.ref x0), some (.int x1), some (.int x2)]) (st' := [.int x2]) (fun _ => rfl) ?_
    refine pE_br (x2 < 0) rfl rfl (fun c8 => ?_) (fun c8 => ?_)
    · rw [if_pos c8] at h
      refine pE_weak [none, none, none] trivial ?_
      exact f_M_put_49 sp d N S _ h
    · rw [if_neg c8] at h
      refine pE_jump 5 (pc' := 14) (ls' := [some (.ref x0), some (.int x1), some (.int x2)]) (st' := [.int ((x1 >>> (x2 &&& 31)) &&& 255)]) (fun _ => rfl) ?_
      refine pE_br (¬ ((x1 >>> (x2 &&& 31)) &&& 255) = 0) rfl rfl (fun c7 => ?_) (fun c7 => ?_)
      · rw [if_neg c7] at h
        refine pE_jump 1 (pc' := 21) (ls' := [some (.ref x0), some (.int x1), some (.int x2)]) (st' := [.ref x0]) (fun _ => rfl) ?_
        obtain ⟨oq1, hq1, h⟩ := obind h
        cases oq1 with
        | none => cases h
        | some q1 =>
          try dsimp only at h
          refine pE_gfS rfl rfl hq1 ?_
          refine pE_jump 1 (pc' := 25) (ls' := [some (.ref x0), some (.int x1), some (.int x2)]) (st' := [.ref x0, .ref q1]) (fun _ => rfl) ?_
          obtain ⟨v3, hv3, h⟩ := obind h
          refine pE_gfI rfl rfl hv3 ?_
          refine pE_jump 4 (pc' := 32) (ls' := [some (.ref x0), some (.int x1), some (.int x2)]) (st' := [.int ((Int32.toInt8 (x1 >>> (x2 &&& 31))).toInt32), .int v3, .ref q1]) (fun _ => rfl) ?_
          obtain ⟨S4, hS4, h⟩ := obind h
          refine pE_sI rfl rfl hS4 ?_
          refine pE_jump 2 (pc' := 35) (ls' := [some (.ref x0), some (.int x1), some (.int x2)]) (st' := [.ref x0, .ref x0]) (fun _ => rfl) ?_
          obtain ⟨v5, hv5, h⟩ := obind h
          refine pE_gfI rfl rfl hv5 ?_
          refine pE_jump 2 (pc' := 40) (ls' := [some (.ref x0), some (.int x1), some (.int x2)]) (st' := [.int (v5 + 1), .ref x0]) (fun _ => rfl) ?_
          obtain ⟨S6, hS6, h⟩ := obind h
          refine pE_pf rfl rfl rfl hS6 ?_
          exact f_M_put_43 sp d N rec3 x0 x1 x2 S6 hrec3 _ h
      · have c7 := Decidable.not_not.mp c7
        rw [if_pos c7] at h
        refine pE_jump 1 (pc' := 43) (ls' := [some (.ref x0), some (.int x1), some (.int x2)]) (st' := []) (fun _ => rfl) ?_
        exact f_M_put_43 sp d N rec3 x0 x1 x2 S hrec3 _ h
def F_M_put (N : Nat) (S : pm_S) (a : Nat) (p0 : Int32) : Option pm_S :=
    if rcv S a 11 = true then
    (F_M_put_3 N a p0 N 24 S)
    else none
theorem g_M_put {N : Nat} {S : pm_S} {a : Nat} {p0 : Int32} {r : pm_S} (h : F_M_put N S a p0 = some r) : rcv S a 11 = true := by
  unfold F_M_put at h
  by_cases c : rcv S a 11 = true
  · exact c
  · rw [if_neg c] at h; cases h
set_option maxHeartbeats 4000000 in
set_option maxRecDepth 20000 in
theorem f_M_put (sp : pm_I → List Value → pm_S → pm_O → Prop) (d N : Nat) (S : pm_S) (a : Nat) (p0 : Int32) (r : pm_S) (h : F_M_put N S a p0 = some r) : pm_rel pG sp (d + 1) mi_M_put [.ref a, .int p0] S (none, r) := by
  have hg := g_M_put h
  unfold F_M_put at h
  rw [if_pos hg] at h
  refine pE_rel (d := d + 0) ?_
  show pmE pG _ mi_M_put 0 [some (.ref a), some (.int p0), none] [] S _
  refine pE_jump 2 (pc' := 3) (ls' := [some (.ref a), some (.int p0), some (.int 24)]) (st' := []) (fun _ => rfl) ?_
  exact f_M_put_3 sp d N a p0 N 24 S _ h
def F_M_feed (N : Nat) (S : pm_S) (a : Nat) (p0 : Int32) (p1 : Int32) (p2 : Int32) (p3 : Int32) (p4 : Int32) : Option (Int32 × pm_S) :=
    if rcv S a 11 = true then
    ((wF S a 11 0 .int (.int 0)).bind fun S1 =>
    (oI S1 a 11 2).bind fun v2 =>
    (F_M_bytesIn N S1 p0).bind fun (v4, S3) =>
    (F_M_bytesIn N S3 p1).bind fun (v6, S5) =>
    (F_M_bytesIn N S5 p2).bind fun (v8, S7) =>
    (F_M_bytesIn N S7 p3).bind fun (v10, S9) =>
    (F_M_bytesIn N S9 p4).bind fun (v12, S11) =>
    if (((((v2 + v4) + v6) + v8) + v10) + v12) ≤ 300 then
    ((F_M_put N S11 a p0).bind fun S13 =>
    (F_M_put N S13 a p1).bind fun S14 =>
    (F_M_put N S14 a p2).bind fun S15 =>
    (F_M_put N S15 a p3).bind fun S16 =>
    (F_M_put N S16 a p4).bind fun S17 =>
    (oI S17 a 11 2).bind fun v18 =>
    some (v18, S17))
    else
    some ((-1), S11))
    else none
theorem g_M_feed {N : Nat} {S : pm_S} {a : Nat} {p0 : Int32} {p1 : Int32} {p2 : Int32} {p3 : Int32} {p4 : Int32} {r : (Int32 × pm_S)} (h : F_M_feed N S a p0 p1 p2 p3 p4 = some r) : rcv S a 11 = true := by
  unfold F_M_feed at h
  by_cases c : rcv S a 11 = true
  · exact c
  · rw [if_neg c] at h; cases h
set_option maxHeartbeats 4000000 in
set_option maxRecDepth 20000 in
theorem f_M_feed (sp : pm_I → List Value → pm_S → pm_O → Prop) (d N : Nat) (S : pm_S) (a : Nat) (p0 : Int32) (p1 : Int32) (p2 : Int32) (p3 : Int32) (p4 : Int32) (r : (Int32 × pm_S)) (h : F_M_feed N S a p0 p1 p2 p3 p4 = some r) : pm_rel pG sp (d + 2) mi_M_feed [.ref a, .int p0, .int p1, .int p2, .int p3, .int p4] S (some (.int r.1), r.2) := by
  have hg := g_M_feed h
  unfold F_M_feed at h
  rw [if_pos hg] at h
  refine pE_rel (d := d + 1) ?_
  show pmE pG _ mi_M_feed 0 [some (.ref a), some (.int p0), some (.int p1), some (.int p2), some (.int p3), some (.int p4)] [] S _
  refine pE_jump 2 (pc' := 2) (ls' := [some (.ref a), some (.int p0), some (.int p1), some (.int p2), some (.int p3), some (.int p4)]) (st' := [.int 0, .ref a]) (fun _ => rfl) ?_
  obtain ⟨S1, hS1, h⟩ := obind h
  refine pE_pf rfl rfl rfl hS1 ?_
  refine pE_jump 1 (pc' := 6) (ls' := [some (.ref a), some (.int p0), some (.int p1), some (.int p2), some (.int p3), some (.int p4)]) (st' := [.ref a]) (fun _ => rfl) ?_
  obtain ⟨v2, hv2, h⟩ := obind h
  refine pE_gfI rfl rfl hv2 ?_
  refine pE_jump 1 (pc' := 10) (ls' := [some (.ref a), some (.int p0), some (.int p1), some (.int p2), some (.int p3), some (.int p4)]) (st' := [.int p0, .int v2]) (fun _ => rfl) ?_
  obtain ⟨⟨v4, S3⟩, hv4, h⟩ := obind h
  try dsimp only at h
  refine pE_is (Bs := [.int p0]) (st := [.int v2]) rfl rfl rfl (Nat.le_of_ble_eq_true rfl) (Nat.le_of_ble_eq_true rfl) (f_M_bytesIn sp d N S1 p0 _ hv4) ?_
  refine pE_jump 2 (pc' := 15) (ls' := [some (.ref a), some (.int p0), some (.int p1), some (.int p2), some (.int p3), some (.int p4)]) (st' := [.int p1, .int (v2 + v4)]) (fun _ => rfl) ?_
  obtain ⟨⟨v6, S5⟩, hv6, h⟩ := obind h
  try dsimp only at h
  refine pE_is (Bs := [.int p1]) (st := [.int (v2 + v4)]) rfl rfl rfl (Nat.le_of_ble_eq_true rfl) (Nat.le_of_ble_eq_true rfl) (f_M_bytesIn sp d N S3 p1 _ hv6) ?_
  refine pE_jump 2 (pc' := 20) (ls' := [some (.ref a), some (.int p0), some (.int p1), some (.int p2), some (.int p3), some (.int p4)]) (st' := [.int p2, .int ((v2 + v4) + v6)]) (fun _ => rfl) ?_
  obtain ⟨⟨v8, S7⟩, hv8, h⟩ := obind h
  try dsimp only at h
  refine pE_is (Bs := [.int p2]) (st := [.int ((v2 + v4) + v6)]) rfl rfl rfl (Nat.le_of_ble_eq_true rfl) (Nat.le_of_ble_eq_true rfl) (f_M_bytesIn sp d N S5 p2 _ hv8) ?_
  refine pE_jump 2 (pc' := 26) (ls' := [some (.ref a), some (.int p0), some (.int p1), some (.int p2), some (.int p3), some (.int p4)]) (st' := [.int p3, .int (((v2 + v4) + v6) + v8)]) (fun _ => rfl) ?_
  obtain ⟨⟨v10, S9⟩, hv10, h⟩ := obind h
  try dsimp only at h
  refine pE_is (Bs := [.int p3]) (st := [.int (((v2 + v4) + v6) + v8)]) rfl rfl rfl (Nat.le_of_ble_eq_true rfl) (Nat.le_of_ble_eq_true rfl) (f_M_bytesIn sp d N S7 p3 _ hv10) ?_
  refine pE_jump 2 (pc' := 32) (ls' := [some (.ref a), some (.int p0), some (.int p1), some (.int p2), some (.int p3), some (.int p4)]) (st' := [.int p4, .int ((((v2 + v4) + v6) + v8) + v10)]) (fun _ => rfl) ?_
  obtain ⟨⟨v12, S11⟩, hv12, h⟩ := obind h
  try dsimp only at h
  refine pE_is (Bs := [.int p4]) (st := [.int ((((v2 + v4) + v6) + v8) + v10)]) rfl rfl rfl (Nat.le_of_ble_eq_true rfl) (Nat.le_of_ble_eq_true rfl) (f_M_bytesIn sp d N S9 p4 _ hv12) ?_
  refine pE_jump 2 (pc' := 39) (ls' := [some (.ref a), some (.int p0), some (.int p1), some (.int p2), some (.int p3), some (.int p4)]) (st' := [.int 300, .int (((((v2 + v4) + v6) + v8) + v10) + v12)]) (fun _ => rfl) ?_
  refine pE_br ((((((v2 + v4) + v6) + v8) + v10) + v12) ≤ 300) rfl rfl (fun c19 => ?_) (fun c19 => ?_)
  · rw [if_pos c19] at h
    refine pE_jump 2 (pc' := 46) (ls' := [some (.ref a), some (.int p0), some (.int p1), some (.int p2), some (.int p3), some (.int p4)]) (st' := [.int p0, .ref a]) (fun _ => rfl) ?_
    obtain ⟨S13, hS13, h⟩ := obind h
    refine pE_iv (Bs := [.int p0]) (st := []) 1 rfl (Or.inl ⟨rfl, rfl⟩) rfl rfl (Nat.le_of_ble_eq_true rfl) (Nat.le_of_ble_eq_true rfl) (g_M_put hS13) (f_M_put sp d N S11 a p0 _ hS13) ?_
    refine pE_jump 2 (pc' := 51) (ls' := [some (.ref a), some (.int p0), some (.int p1), some (.int p2), some (.int p3), some (.int p4)]) (st' := [.int p1, .ref a]) (fun _ => rfl) ?_
    obtain ⟨S14, hS14, h⟩ := obind h
    refine pE_iv (Bs := [.int p1]) (st := []) 1 rfl (Or.inl ⟨rfl, rfl⟩) rfl rfl (Nat.le_of_ble_eq_true rfl) (Nat.le_of_ble_eq_true rfl) (g_M_put hS14) (f_M_put sp d N S13 a p1 _ hS14) ?_
    refine pE_jump 2 (pc' := 56) (ls' := [some (.ref a), some (.int p0), some (.int p1), some (.int p2), some (.int p3), some (.int p4)]) (st' := [.int p2, .ref a]) (fun _ => rfl) ?_
    obtain ⟨S15, hS15, h⟩ := obind h
    refine pE_iv (Bs := [.int p2]) (st := []) 1 rfl (Or.inl ⟨rfl, rfl⟩) rfl rfl (Nat.le_of_ble_eq_true rfl) (Nat.le_of_ble_eq_true rfl) (g_M_put hS15) (f_M_put sp d N S14 a p2 _ hS15) ?_
    refine pE_jump 2 (pc' := 62) (ls' := [some (.ref a), some (.int p0), some (.int p1), some (.int p2), some (.int p3), some (.int p4)]) (st' := [.int p3, .ref a]) (fun _ => rfl) ?_
    obtain ⟨S16, hS16, h⟩ := obind h
    refine pE_iv (Bs := [.int p3]) (st := []) 1 rfl (Or.inl ⟨rfl, rfl⟩) rfl rfl (Nat.le_of_ble_eq_true rfl) (Nat.le_of_ble_eq_true rfl) (g_M_put hS16) (f_M_put sp d N S15 a p3 _ hS16) ?_
    refine pE_jump 2 (pc' := 68) (ls' := [some (.ref a), some (.int p0), some (.int p1), some (.int p2), some (.int p3), some (.int p4)]) (st' := [.int p4, .ref a]) (fun _ => rfl) ?_
    obtain ⟨S17, hS17, h⟩ := obind h
    refine pE_iv (Bs := [.int p4]) (st := []) 1 rfl (Or.inl ⟨rfl, rfl⟩) rfl rfl (Nat.le_of_ble_eq_true rfl) (Nat.le_of_ble_eq_true rfl) (g_M_put hS17) (f_M_put sp d N S16 a p4 _ hS17) ?_
    refine pE_jump 1 (pc' := 72) (ls' := [some (.ref a), some (.int p0), some (.int p1), some (.int p2), some (.int p3), some (.int p4)]) (st' := [.ref a]) (fun _ => rfl) ?_
    obtain ⟨v18, hv18, h⟩ := obind h
    refine pE_gfI rfl rfl hv18 ?_
    cases h
    exact pE_ret rfl rfl rfl
  · rw [if_neg c19] at h
    refine pE_jump 1 (pc' := 43) (ls' := [some (.ref a), some (.int p0), some (.int p1), some (.int p2), some (.int p3), some (.int p4)]) (st' := [.int (-1)]) (fun _ => rfl) ?_
    cases h
    exact pE_ret rfl rfl rfl
def F_M_end_17 (N : Nat)   (S : pm_S) : Option (Int32 × pm_S) :=
    some (0, S)
set_option maxHeartbeats 4000000 in
set_option maxRecDepth 20000 in
theorem f_M_end_17 (sp : pm_I → List Value → pm_S → pm_O → Prop) (d N : Nat)   (S : pm_S)  (r : (Int32 × pm_S)) (h : F_M_end_17 N   S = some r) : pmE pG (pm_rel pG sp (d + 0)) mi_M_end 17 [none, none] [] S (some (.int r.1), r.2) := by
  unfold F_M_end_17 at h
  refine pE_jump 1 (pc' := 18) (ls' := [none, none]) (st' := [.int 0]) (fun _ => rfl) ?_
  cases h
  exact pE_ret rfl rfl rfl
def F_M_end (N : Nat) (S : pm_S) (a : Nat) (p0 : Int32) : Option (Int32 × pm_S) :=
    if rcv S a 11 = true then
    ((wF S a 11 0 .int (.int 0)).bind fun S1 =>
    if p0 < 0 then
    F_M_end_17 N S1
    else
    ((oI S1 a 11 2).bind fun v2 =>
    if p0 ≤ v2 then
    ((wF S1 a 11 2 .int (.int p0)).bind fun S3 =>
    some (1, S3))
    else
    F_M_end_17 N S1))
    else none
theorem g_M_end {N : Nat} {S : pm_S} {a : Nat} {p0 : Int32} {r : (Int32 × pm_S)} (h : F_M_end N S a p0 = some r) : rcv S a 11 = true := by
  unfold F_M_end at h
  by_cases c : rcv S a 11 = true
  · exact c
  · rw [if_neg c] at h; cases h
set_option maxHeartbeats 4000000 in
set_option maxRecDepth 20000 in
theorem f_M_end (sp : pm_I → List Value → pm_S → pm_O → Prop) (d N : Nat) (S : pm_S) (a : Nat) (p0 : Int32) (r : (Int32 × pm_S)) (h : F_M_end N S a p0 = some r) : pm_rel pG sp (d + 1) mi_M_end [.ref a, .int p0] S (some (.int r.1), r.2) := by
  have hg := g_M_end h
  unfold F_M_end at h
  rw [if_pos hg] at h
  refine pE_rel (d := d + 0) ?_
  show pmE pG _ mi_M_end 0 [some (.ref a), some (.int p0)] [] S _
  refine pE_jump 2 (pc' := 2) (ls' := [some (.ref a), some (.int p0)]) (st' := [.int 0, .ref a]) (fun _ => rfl) ?_
  obtain ⟨S1, hS1, h⟩ := obind h
  refine pE_pf rfl rfl rfl hS1 ?_
  refine pE_jump 1 (pc' := 6) (ls' := [some (.ref a), some (.int p0)]) (st' := [.int p0]) (fun _ => rfl) ?_
  refine pE_br (p0 < 0) rfl rfl (fun c5 => ?_) (fun c5 => ?_)
  · rw [if_pos c5] at h
    refine pE_weak [none, none] trivial ?_
    exact f_M_end_17 sp d N S1 _ h
  · rw [if_neg c5] at h
    refine pE_jump 2 (pc' := 11) (ls' := [some (.ref a), some (.int p0)]) (st' := [.ref a, .int p0]) (fun _ => rfl) ?_
    obtain ⟨v2, hv2, h⟩ := obind h
    refine pE_gfI rfl rfl hv2 ?_
    refine pE_br (p0 ≤ v2) rfl rfl (fun c4 => ?_) (fun c4 => ?_)
    · rw [if_pos c4] at h
      refine pE_jump 2 (pc' := 21) (ls' := [some (.ref a), some (.int p0)]) (st' := [.int p0, .ref a]) (fun _ => rfl) ?_
      obtain ⟨S3, hS3, h⟩ := obind h
      refine pE_pf rfl rfl rfl hS3 ?_
      refine pE_jump 1 (pc' := 25) (ls' := [some (.ref a), some (.int p0)]) (st' := [.int 1]) (fun _ => rfl) ?_
      cases h
      exact pE_ret rfl rfl rfl
    · rw [if_neg c4] at h
      refine pE_weak [none, none] trivial ?_
      exact f_M_end_17 sp d N S1 _ h
