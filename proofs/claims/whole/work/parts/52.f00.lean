def F_Tape_init (N : Nat) (S : pm_S) (a : Nat) : Option pm_S :=
    if rcv S a 6 = true then
    (if pm_my S a = true then
    ((nA S 0 300).bind fun (q2, S3) =>
    (wF S3 a 6 0 (.array .int) (.ref q2)).bind fun S4 =>
    (wF S4 a 6 1 .int (.int 0)).bind fun S5 =>
    some S5)
    else none)
    else none
theorem g_Tape_init {N : Nat} {S : pm_S} {a : Nat} {r : pm_S} (h : F_Tape_init N S a = some r) : rcv S a 6 = true := by
  unfold F_Tape_init at h
  by_cases c : rcv S a 6 = true
  · exact c
  · rw [if_neg c] at h; cases h
set_option maxHeartbeats 4000000 in
set_option maxRecDepth 20000 in
theorem f_Tape_init (sp : pm_I → List Value → pm_S → pm_O → Prop) (d N : Nat) (S : pm_S) (a : Nat) (r : pm_S) (h : F_Tape_init N S a = some r) : pm_rel pG sp (d + 1) mi_Tape_init [.ref a] S (none, r) := by
  have hg := g_Tape_init h
  unfold F_Tape_init at h
  rw [if_pos hg] at h
  refine pE_rel (d := d + 0) ?_
  show pmE pG _ mi_Tape_init 0 [some (.ref a)] [] S _
  refine pE_jump 1 (pc' := 1) (ls' := [some (.ref a)]) (st' := [.ref a]) (fun _ => rfl) ?_
  by_cases c1 : pm_my S a = true
  case neg => rw [if_neg c1] at h; cases h
  rw [if_pos c1] at h
  refine pE_obj rfl rfl (Nat.le_of_ble_eq_true rfl) c1 ?_
  refine pE_jump 2 (pc' := 8) (ls' := [some (.ref a)]) (st' := [.int 300, .ref a]) (fun _ => rfl) ?_
  obtain ⟨⟨q2, S3⟩, hq2, h⟩ := obind h
  refine pE_nA rfl rfl hq2 ?_
  try dsimp only at h
  obtain ⟨S4, hS4, h⟩ := obind h
  refine pE_pf rfl rfl rfl hS4 ?_
  refine pE_jump 2 (pc' := 15) (ls' := [some (.ref a)]) (st' := [.int 0, .ref a]) (fun _ => rfl) ?_
  obtain ⟨S5, hS5, h⟩ := obind h
  refine pE_pf rfl rfl rfl hS5 ?_
  cases h
  exact pE_ret rfl rfl rfl
def F_Reader_init (N : Nat) (S : pm_S) (a : Nat) (p0 : Nat) : Option pm_S :=
    if rcv S a 7 = true then
    (if pm_my S a = true then
    ((wF S a 7 0 (.object "BuriedPairs$Tape") (.ref p0)).bind fun S2 =>
    (wF S2 a 7 1 .int (.int 0)).bind fun S3 =>
    (wF S3 a 7 2 .int (.int (-1))).bind fun S4 =>
    some S4)
    else none)
    else none
theorem g_Reader_init {N : Nat} {S : pm_S} {a : Nat} {p0 : Nat} {r : pm_S} (h : F_Reader_init N S a p0 = some r) : rcv S a 7 = true := by
  unfold F_Reader_init at h
  by_cases c : rcv S a 7 = true
  · exact c
  · rw [if_neg c] at h; cases h
set_option maxHeartbeats 4000000 in
set_option maxRecDepth 20000 in
theorem f_Reader_init (sp : pm_I → List Value → pm_S → pm_O → Prop) (d N : Nat) (S : pm_S) (a : Nat) (p0 : Nat) (r : pm_S) (h : F_Reader_init N S a p0 = some r) : pm_rel pG sp (d + 1) mi_Reader_init [.ref a, .ref p0] S (none, r) := by
  have hg := g_Reader_init h
  unfold F_Reader_init at h
  rw [if_pos hg] at h
  refine pE_rel (d := d + 0) ?_
  show pmE pG _ mi_Reader_init 0 [some (.ref a), some (.ref p0)] [] S _
  refine pE_jump 1 (pc' := 1) (ls' := [some (.ref a), some (.ref p0)]) (st' := [.ref a]) (fun _ => rfl) ?_
  by_cases c1 : pm_my S a = true
  case neg => rw [if_neg c1] at h; cases h
  rw [if_pos c1] at h
  refine pE_obj rfl rfl (Nat.le_of_ble_eq_true rfl) c1 ?_
  refine pE_jump 2 (pc' := 6) (ls' := [some (.ref a), some (.ref p0)]) (st' := [.ref p0, .ref a]) (fun _ => rfl) ?_
  obtain ⟨S2, hS2, h⟩ := obind h
  refine pE_pf rfl rfl rfl hS2 ?_
  refine pE_jump 2 (pc' := 11) (ls' := [some (.ref a), some (.ref p0)]) (st' := [.int 0, .ref a]) (fun _ => rfl) ?_
  obtain ⟨S3, hS3, h⟩ := obind h
  refine pE_pf rfl rfl rfl hS3 ?_
  refine pE_jump 2 (pc' := 16) (ls' := [some (.ref a), some (.ref p0)]) (st' := [.int (-1), .ref a]) (fun _ => rfl) ?_
  obtain ⟨S4, hS4, h⟩ := obind h
  refine pE_pf rfl rfl rfl hS4 ?_
  cases h
  exact pE_ret rfl rfl rfl
def F_Arr_fill_20 (N : Nat)   (S : pm_S) : Option pm_S :=
    some S
set_option maxHeartbeats 4000000 in
set_option maxRecDepth 20000 in
theorem f_Arr_fill_20 (sp : pm_I → List Value → pm_S → pm_O → Prop) (d N : Nat)   (S : pm_S)  (r : pm_S) (h : F_Arr_fill_20 N   S = some r) : pmE pG (pm_rel pG sp (d + 0)) mi_Arr_fill 20 [none, none, none, none] [] S (none, r) := by
  unfold F_Arr_fill_20 at h
  cases h
  exact pE_ret rfl rfl rfl
def B_Arr_fill_5 (N : Nat)  (rec5 : Int32 → pm_S → Option pm_S) (x0 : Nat) (x1 : Int32) (x3 : Int32) (x2 : Int32) (S : pm_S) : Option pm_S :=
    if x3 ≤ x2 then
    F_Arr_fill_20 N S
    else
    ((sI [0] S x0 x2 x1).bind fun S2 =>
    rec5 (x2 + 1) S2)
def F_Arr_fill_5 (N : Nat)  (x0 : Nat) (x1 : Int32) (x3 : Int32) : Nat → Int32 → pm_S → Option pm_S
  | 0 => fun _ _ => none
  | n + 1 => fun x2 S => B_Arr_fill_5 N  (F_Arr_fill_5 N  x0 x1 x3 n) x0 x1 x3 x2 S
set_option maxHeartbeats 4000000 in
set_option maxRecDepth 20000 in
theorem f_Arr_fill_5 (sp : pm_I → List Value → pm_S → pm_O → Prop) (d N : Nat)  (x0 : Nat) (x1 : Int32) (x3 : Int32)  : ∀ (n : Nat) (x2 : Int32) (S : pm_S) (r : pm_S), F_Arr_fill_5 N  x0 x1 x3 n x2 S = some r → pmE pG (pm_rel pG sp (d + 0)) mi_Arr_fill 5 [some (.ref x0), some (.int x1), some (.int x2), some (.int x3)] [] S (none, r) := by
  intro n
  induction n with
  | zero =>
    intro x2 S r h
    cases h
  | succ n ih =>
    intro x2 S r h
    replace h : B_Arr_fill_5 N  (F_Arr_fill_5 N  x0 x1 x3 n) x0 x1 x3 x2 S = some r := h
    have hrec5 := ih
    generalize F_Arr_fill_5 N  x0 x1 x3 n = rec5 at h hrec5
    unfold B_Arr_fill_5 at h
    refine pE_jump 2 (pc' := 7) (ls' := [some (.ref x0), some (.int x1), some (.int x2), some (.int x3)]) (st' := [.int x3, .int x2]) (fun _ => rfl) ?_
    refine pE_br (x3 ≤ x2) rfl rfl (fun c3 => ?_) (fun c3 => ?_)
    · rw [if_pos c3] at h
      refine pE_weak [none, none, none, none] trivial ?_
      exact f_Arr_fill_20 sp d N S _ h
    · rw [if_neg c3] at h
      refine pE_jump 3 (pc' := 13) (ls' := [some (.ref x0), some (.int x1), some (.int x2), some (.int x3)]) (st' := [.int x1, .int x2, .ref x0]) (fun _ => rfl) ?_
      obtain ⟨S2, hS2, h⟩ := obind h
      refine pE_sI rfl rfl hS2 ?_
      refine pE_jump 2 (pc' := 5) (ls' := [some (.ref x0), some (.int x1), some (.int (x2 + 1)), some (.int x3)]) (st' := []) (fun _ => rfl) ?_
      exact hrec5 (x2 + 1) S2 _ h
def F_Arr_fill (N : Nat) (S : pm_S) (p0 : Nat) (p1 : Int32) : Option pm_S :=
    (aNS S p0).bind fun v1 =>
    F_Arr_fill_5 N p0 p1 v1 N 0 S
set_option maxHeartbeats 4000000 in
set_option maxRecDepth 20000 in
theorem f_Arr_fill (sp : pm_I → List Value → pm_S → pm_O → Prop) (d N : Nat) (S : pm_S) (p0 : Nat) (p1 : Int32) (r : pm_S) (h : F_Arr_fill N S p0 p1 = some r) : pm_rel pG sp (d + 1) mi_Arr_fill [.ref p0, .int p1] S (none, r) := by
  unfold F_Arr_fill at h
  refine pE_rel (d := d + 0) ?_
  show pmE pG _ mi_Arr_fill 0 [some (.ref p0), some (.int p1), none, none] [] S _
  refine pE_jump 3 (pc' := 3) (ls' := [some (.ref p0), some (.int p1), some (.int 0), none]) (st' := [.ref p0]) (fun _ => rfl) ?_
  obtain ⟨v1, hv1, h⟩ := obind h
  refine pE_aN rfl hv1 ?_
  refine pE_jump 1 (pc' := 5) (ls' := [some (.ref p0), some (.int p1), some (.int 0), some (.int v1)]) (st' := []) (fun _ => rfl) ?_
  exact f_Arr_fill_5 sp d N p0 p1 v1 N 0 S _ h
def F_Layout_init (N : Nat) (S : pm_S) (a : Nat) : Option pm_S :=
    if rcv S a 1 = true then
    (if pm_my S a = true then
    ((nA S 0 56).bind fun (q2, S3) =>
    (wF S3 a 1 0 (.array .int) (.ref q2)).bind fun S4 =>
    (nA S4 0 56).bind fun (q5, S6) =>
    (wF S6 a 1 1 (.array .int) (.ref q5)).bind fun S7 =>
    (nA S7 0 56).bind fun (q8, S9) =>
    (wF S9 a 1 2 (.array .int) (.ref q8)).bind fun S10 =>
    (nA S10 0 10).bind fun (q11, S12) =>
    (wF S12 a 1 3 (.array .int) (.ref q11)).bind fun S13 =>
    (oR S13 a 1 0).bind fun oq14 => match oq14 with
    | none => none
    | some q14 =>
    (F_Arr_fill N S13 q14 (-1)).bind fun S15 =>
    (oR S15 a 1 1).bind fun oq16 => match oq16 with
    | none => none
    | some q16 =>
    (F_Arr_fill N S15 q16 (-1)).bind fun S17 =>
    (oR S17 a 1 2).bind fun oq18 => match oq18 with
    | none => none
    | some q18 =>
    (F_Arr_fill N S17 q18 (-1)).bind fun S19 =>
    (oR S19 a 1 3).bind fun oq20 => match oq20 with
    | none => none
    | some q20 =>
    (F_Arr_fill N S19 q20 (-1)).bind fun S21 =>
    some S21)
    else none)
    else none
theorem g_Layout_init {N : Nat} {S : pm_S} {a : Nat} {r : pm_S} (h : F_Layout_init N S a = some r) : rcv S a 1 = true := by
  unfold F_Layout_init at h
  by_cases c : rcv S a 1 = true
  · exact c
  · rw [if_neg c] at h; cases h
set_option maxHeartbeats 4000000 in
set_option maxRecDepth 20000 in
theorem f_Layout_init (sp : pm_I → List Value → pm_S → pm_O → Prop) (d N : Nat) (S : pm_S) (a : Nat) (r : pm_S) (h : F_Layout_init N S a = some r) : pm_rel pG sp (d + 2) mi_Layout_init [.ref a] S (none, r) := by
  have hg := g_Layout_init h
  unfold F_Layout_init at h
  rw [if_pos hg] at h
  refine pE_rel (d := d + 1) ?_
  show pmE pG _ mi_Layout_init 0 [some (.ref a)] [] S _
  refine pE_jump 1 (pc' := 1) (ls' := [some (.ref a)]) (st' := [.ref a]) (fun _ => rfl) ?_
  by_cases c1 : pm_my S a = true
  case neg => rw [if_neg c1] at h; cases h
  rw [if_pos c1] at h
  refine pE_obj rfl rfl (Nat.le_of_ble_eq_true rfl) c1 ?_
  refine pE_jump 2 (pc' := 7) (ls' := [some (.ref a)]) (st' := [.int 56, .ref a]) (fun _ => rfl) ?_
  obtain ⟨⟨q2, S3⟩, hq2, h⟩ := obind h
  refine pE_nA rfl rfl hq2 ?_
  try dsimp only at h
  obtain ⟨S4, hS4, h⟩ := obind h
  refine pE_pf rfl rfl rfl hS4 ?_
  refine pE_jump 2 (pc' := 15) (ls' := [some (.ref a)]) (st' := [.int 56, .ref a]) (fun _ => rfl) ?_
  obtain ⟨⟨q5, S6⟩, hq5, h⟩ := obind h
  refine pE_nA rfl rfl hq5 ?_
  try dsimp only at h
  obtain ⟨S7, hS7, h⟩ := obind h
  refine pE_pf rfl rfl rfl hS7 ?_
  refine pE_jump 2 (pc' := 23) (ls' := [some (.ref a)]) (st' := [.int 56, .ref a]) (fun _ => rfl) ?_
  obtain ⟨⟨q8, S9⟩, hq8, h⟩ := obind h
  refine pE_nA rfl rfl hq8 ?_
  try dsimp only at h
  obtain ⟨S10, hS10, h⟩ := obind h
  refine pE_pf rfl rfl rfl hS10 ?_
  refine pE_jump 2 (pc' := 31) (ls' := [some (.ref a)]) (st' := [.int 10, .ref a]) (fun _ => rfl) ?_
  obtain ⟨⟨q11, S12⟩, hq11, h⟩ := obind h
  refine pE_nA rfl rfl hq11 ?_
  try dsimp only at h
  obtain ⟨S13, hS13, h⟩ := obind h
  refine pE_pf rfl rfl rfl hS13 ?_
  refine pE_jump 1 (pc' := 37) (ls' := [some (.ref a)]) (st' := [.ref a]) (fun _ => rfl) ?_
  obtain ⟨oq14, hq14, h⟩ := obind h
  cases oq14 with
  | none => cases h
  | some q14 =>
    try dsimp only at h
    refine pE_gfS rfl rfl hq14 ?_
    refine pE_jump 1 (pc' := 41) (ls' := [some (.ref a)]) (st' := [.int (-1), .ref q14]) (fun _ => rfl) ?_
    obtain ⟨S15, hS15, h⟩ := obind h
    refine pE_is (Bs := [.ref q14, .int (-1)]) (st := []) rfl rfl rfl (Nat.le_of_ble_eq_true rfl) (Nat.le_of_ble_eq_true rfl) (f_Arr_fill sp d N S13 q14 (-1) _ hS15) ?_
    refine pE_jump 1 (pc' := 45) (ls' := [some (.ref a)]) (st' := [.ref a]) (fun _ => rfl) ?_
    obtain ⟨oq16, hq16, h⟩ := obind h
    cases oq16 with
    | none => cases h
    | some q16 =>
      try dsimp only at h
      refine pE_gfS rfl rfl hq16 ?_
      refine pE_jump 1 (pc' := 49) (ls' := [some (.ref a)]) (st' := [.int (-1), .ref q16]) (fun _ => rfl) ?_
      obtain ⟨S17, hS17, h⟩ := obind h
      refine pE_is (Bs := [.ref q16, .int (-1)]) (st := []) rfl rfl rfl (Nat.le_of_ble_eq_true rfl) (Nat.le_of_ble_eq_true rfl) (f_Arr_fill sp d N S15 q16 (-1) _ hS17) ?_
      refine pE_jump 1 (pc' := 53) (ls' := [some (.ref a)]) (st' := [.ref a]) (fun _ => rfl) ?_
      obtain ⟨oq18, hq18, h⟩ := obind h
      cases oq18 with
      | none => cases h
      | some q18 =>
        try dsimp only at h
        refine pE_gfS rfl rfl hq18 ?_
        refine pE_jump 1 (pc' := 57) (ls' := [some (.ref a)]) (st' := [.int (-1), .ref q18]) (fun _ => rfl) ?_
        obtain ⟨S19, hS19, h⟩ := obind h
        refine pE_is (Bs := [.ref q18, .int (-1)]) (st := []) rfl rfl rfl (Nat.le_of_ble_eq_true rfl) (Nat.le_of_ble_eq_true rfl) (f_Arr_fill sp d N S17 q18 (-1) _ hS19) ?_
        refine pE_jump 1 (pc' := 61) (ls' := [some (.ref a)]) (st' := [.ref a]) (fun _ => rfl) ?_
        obtain ⟨oq20, hq20, h⟩ := obind h
        cases oq20 with
        | none => cases h
        | some q20 =>
          try dsimp only at h
          refine pE_gfS rfl rfl hq20 ?_
          refine pE_jump 1 (pc' := 65) (ls' := [some (.ref a)]) (st' := [.int (-1), .ref q20]) (fun _ => rfl) ?_
          obtain ⟨S21, hS21, h⟩ := obind h
          refine pE_is (Bs := [.ref q20, .int (-1)]) (st := []) rfl rfl rfl (Nat.le_of_ble_eq_true rfl) (Nat.le_of_ble_eq_true rfl) (f_Arr_fill sp d N S19 q20 (-1) _ hS21) ?_
          cases h
          exact pE_ret rfl rfl rfl
def F_Ledger_init (N : Nat) (S : pm_S) (a : Nat) (p0 : Int32) : Option pm_S :=
    if rcv S a 2 = true then
    (if pm_my S a = true then
    ((wF S a 2 1 .int (.int (if 0 < p0 then p0 else 0))).bind fun S2 =>
    (oI S2 a 2 1).bind fun v3 =>
    (nA S2 0 (5 * v3)).bind fun (q4, S5) =>
    (wF S5 a 2 0 (.array .int) (.ref q4)).bind fun S6 =>
    (wF S6 a 2 2 .int (.int 0)).bind fun S7 =>
    some S7)
    else none)
    else none
theorem g_Ledger_init {N : Nat} {S : pm_S} {a : Nat} {p0 : Int32} {r : pm_S} (h : F_Ledger_init N S a p0 = some r) : rcv S a 2 = true := by
  unfold F_Ledger_init at h
  by_cases c : rcv S a 2 = true
  · exact c
  · rw [if_neg c] at h; cases h
set_option maxHeartbeats 4000000 in
set_option maxRecDepth 20000 in
theorem f_Ledger_init (sp : pm_I → List Value → pm_S → pm_O → Prop) (d N : Nat) (S : pm_S) (a : Nat) (p0 : Int32) (r : pm_S) (h : F_Ledger_init N S a p0 = some r) : pm_rel pG sp (d + 1) mi_Ledger_init [.ref a, .int p0] S (none, r) := by
  have hg := g_Ledger_init h
  unfold F_Ledger_init at h
  rw [if_pos hg] at h
  refine pE_rel (d := d + 0) ?_
  show pmE pG _ mi_Ledger_init 0 [some (.ref a), some (.int p0)] [] S _
  refine pE_jump 1 (pc' := 1) (ls' := [some (.ref a), some (.int p0)]) (st' := [.ref a]) (fun _ => rfl) ?_
  by_cases c1 : pm_my S a = true
  case neg => rw [if_neg c1] at h; cases h
  rw [if_pos c1] at h
  refine pE_obj rfl rfl (Nat.le_of_ble_eq_true rfl) c1 ?_
  refine pE_jump 3 (pc' := 7) (ls' := [some (.ref a), some (.int p0)]) (st' := [.int p0, .int 0, .ref a]) (fun _ => rfl) ?_
  refine pE_mx 5 rfl rfl (Nat.le_of_ble_eq_true rfl) rfl ?_
  obtain ⟨S2, hS2, h⟩ := obind h
  refine pE_pf rfl rfl rfl hS2 ?_
  refine pE_jump 3 (pc' := 16) (ls' := [some (.ref a), some (.int p0)]) (st' := [.ref a, .int 5, .ref a]) (fun _ => rfl) ?_
  obtain ⟨v3, hv3, h⟩ := obind h
  refine pE_gfI rfl rfl hv3 ?_
  refine pE_jump 1 (pc' := 20) (ls' := [some (.ref a), some (.int p0)]) (st' := [.int (5 * v3), .ref a]) (fun _ => rfl) ?_
  obtain ⟨⟨q4, S5⟩, hq4, h⟩ := obind h
  refine pE_nA rfl rfl hq4 ?_
  try dsimp only at h
  obtain ⟨S6, hS6, h⟩ := obind h
  refine pE_pf rfl rfl rfl hS6 ?_
  refine pE_jump 2 (pc' := 27) (ls' := [some (.ref a), some (.int p0)]) (st' := [.int 0, .ref a]) (fun _ => rfl) ?_
  obtain ⟨S7, hS7, h⟩ := obind h
  refine pE_pf rfl rfl rfl hS7 ?_
  cases h
  exact pE_ret rfl rfl rfl
def F_Sheet_init (N : Nat) (S : pm_S) (a : Nat) : Option pm_S :=
    if rcv S a 5 = true then
    (if pm_my S a = true then
    ((nA S 5 24).bind fun (q2, S3) =>
    (wF S3 a 5 0 (.array (.array .int)) (.ref q2)).bind fun S4 =>
    (nA S4 0 1024).bind fun (q5, S6) =>
    (wF S6 a 5 1 (.array .int) (.ref q5)).bind fun S7 =>
    (wF S7 a 5 2 .int (.int 0)).bind fun S8 =>
    (wF S8 a 5 3 .int (.int 0)).bind fun S9 =>
    (wF S9 a 5 4 .boolean (.int 0)).bind fun S10 =>
    some S10)
    else none)
    else none
theorem g_Sheet_init {N : Nat} {S : pm_S} {a : Nat} {r : pm_S} (h : F_Sheet_init N S a = some r) : rcv S a 5 = true := by
  unfold F_Sheet_init at h
  by_cases c : rcv S a 5 = true
  · exact c
  · rw [if_neg c] at h; cases h
set_option maxHeartbeats 4000000 in
set_option maxRecDepth 20000 in
theorem f_Sheet_init (sp : pm_I → List Value → pm_S → pm_O → Prop) (d N : Nat) (S : pm_S) (a : Nat) (r : pm_S) (h : F_Sheet_init N S a = some r) : pm_rel pG sp (d + 1) mi_Sheet_init [.ref a] S (none, r) := by
  have hg := g_Sheet_init h
  unfold F_Sheet_init at h
  rw [if_pos hg] at h
  refine pE_rel (d := d + 0) ?_
  show pmE pG _ mi_Sheet_init 0 [some (.ref a)] [] S _
  refine pE_jump 1 (pc' := 1) (ls' := [some (.ref a)]) (st' := [.ref a]) (fun _ => rfl) ?_
  by_cases c1 : pm_my S a = true
  case neg => rw [if_neg c1] at h; cases h
  rw [if_pos c1] at h
  refine pE_obj rfl rfl (Nat.le_of_ble_eq_true rfl) c1 ?_
  refine pE_jump 2 (pc' := 7) (ls' := [some (.ref a)]) (st' := [.int 24, .ref a]) (fun _ => rfl) ?_
  obtain ⟨⟨q2, S3⟩, hq2, h⟩ := obind h
  refine pE_nQ rfl rfl (by decide) hq2 ?_
  try dsimp only at h
  obtain ⟨S4, hS4, h⟩ := obind h
  refine pE_pf rfl rfl rfl hS4 ?_
  refine pE_jump 2 (pc' := 17) (ls' := [some (.ref a)]) (st' := [.int 1024, .ref a]) (fun _ => rfl) ?_
  obtain ⟨⟨q5, S6⟩, hq5, h⟩ := obind h
  refine pE_nA rfl rfl hq5 ?_
  try dsimp only at h
  obtain ⟨S7, hS7, h⟩ := obind h
  refine pE_pf rfl rfl rfl hS7 ?_
  refine pE_jump 2 (pc' := 24) (ls' := [some (.ref a)]) (st' := [.int 0, .ref a]) (fun _ => rfl) ?_
  obtain ⟨S8, hS8, h⟩ := obind h
  refine pE_pf rfl rfl rfl hS8 ?_
  refine pE_jump 2 (pc' := 29) (ls' := [some (.ref a)]) (st' := [.int 0, .ref a]) (fun _ => rfl) ?_
  obtain ⟨S9, hS9, h⟩ := obind h
  refine pE_pf rfl rfl rfl hS9 ?_
  refine pE_jump 2 (pc' := 34) (ls' := [some (.ref a)]) (st' := [.int 0, .ref a]) (fun _ => rfl) ?_
  obtain ⟨S10, hS10, h⟩ := obind h
  refine pE_pf rfl rfl rfl hS10 ?_
  cases h
  exact pE_ret rfl rfl rfl
def F_Plan_init (N : Nat) (S : pm_S) (a : Nat) : Option pm_S :=
    if rcv S a 4 = true then
    (if pm_my S a = true then
    ((wF S a 4 0 .int (.int 0)).bind fun S2 =>
    (some (ps_hi S2, pm_al S2 3 (.inr (2, [.null, .int 0, .int 0])))).bind fun (q4, S3) =>
    (F_Ledger_init N S3 q4 7).bind fun S5 =>
    (wF S5 a 4 1 (.object "BuriedPairs$Ledger") (.ref q4)).bind fun S6 =>
    (nA S6 0 8).bind fun (q7, S8) =>
    (wF S8 a 4 2 (.array .int) (.ref q7)).bind fun S9 =>
    (nA S9 0 7).bind fun (q10, S11) =>
    (wF S11 a 4 3 (.array .int) (.ref q10)).bind fun S12 =>
    (some (ps_hi S12, pm_al S12 4 (.inr (1, [.null, .null, .null, .null])))).bind fun (q14, S13) =>
    (F_Layout_init N S13 q14).bind fun S15 =>
    (wF S15 a 4 4 (.object "BuriedPairs$Layout") (.ref q14)).bind fun S16 =>
    (some (ps_hi S16, pm_al S16 4 (.inr (1, [.null, .null, .null, .null])))).bind fun (q18, S17) =>
    (F_Layout_init N S17 q18).bind fun S19 =>
    (wF S19 a 4 5 (.object "BuriedPairs$Layout") (.ref q18)).bind fun S20 =>
    (some (ps_hi S20, pm_al S20 3 (.inr (2, [.null, .int 0, .int 0])))).bind fun (q22, S21) =>
    (F_Ledger_init N S21 q22 6).bind fun S23 =>
    (wF S23 a 4 6 (.object "BuriedPairs$Ledger") (.ref q22)).bind fun S24 =>
    (some (ps_hi S24, pm_al S24 3 (.inr (2, [.null, .int 0, .int 0])))).bind fun (q26, S25) =>
    (F_Ledger_init N S25 q26 10).bind fun S27 =>
    (wF S27 a 4 7 (.object "BuriedPairs$Ledger") (.ref q26)).bind fun S28 =>
    (some (ps_hi S28, pm_al S28 3 (.inr (2, [.null, .int 0, .int 0])))).bind fun (q30, S29) =>
    (F_Ledger_init N S29 q30 12).bind fun S31 =>
    (wF S31 a 4 8 (.object "BuriedPairs$Ledger") (.ref q30)).bind fun S32 =>
    (some (ps_hi S32, pm_al S32 3 (.inr (2, [.null, .int 0, .int 0])))).bind fun (q34, S33) =>
    (F_Ledger_init N S33 q34 24).bind fun S35 =>
    (wF S35 a 4 9 (.object "BuriedPairs$Ledger") (.ref q34)).bind fun S36 =>
    (nA S36 0 10).bind fun (q37, S38) =>
    (wF S38 a 4 10 (.array .int) (.ref q37)).bind fun S39 =>
    (some (ps_hi S39, pm_al S39 5 (.inr (5, [.null, .null, .int 0, .int 0, .int 0])))).bind fun (q41, S40) =>
    (F_Sheet_init N S40 q41).bind fun S42 =>
    (wF S42 a 4 11 (.object "BuriedPairs$Sheet") (.ref q41)).bind fun S43 =>
    (oR S43 a 4 2).bind fun oq44 => match oq44 with
    | none => none
    | some q44 =>
    (F_Arr_fill N S43 q44 (-1)).bind fun S45 =>
    (oR S45 a 4 10).bind fun oq46 => match oq46 with
    | none => none
    | some q46 =>
    (F_Arr_fill N S45 q46 (-1)).bind fun S47 =>
    some S47)
    else none)
    else none
theorem g_Plan_init {N : Nat} {S : pm_S} {a : Nat} {r : pm_S} (h : F_Plan_init N S a = some r) : rcv S a 4 = true := by
  unfold F_Plan_init at h
  by_cases c : rcv S a 4 = true
  · exact c
  · rw [if_neg c] at h; cases h
set_option maxHeartbeats 4000000 in
set_option maxRecDepth 20000 in
theorem f_Plan_init (sp : pm_I → List Value → pm_S → pm_O → Prop) (d N : Nat) (S : pm_S) (a : Nat) (r : pm_S) (h : F_Plan_init N S a = some r) : pm_rel pG sp (d + 3) mi_Plan_init [.ref a] S (none, r) := by
  have hg := g_Plan_init h
  unfold F_Plan_init at h
  rw [if_pos hg] at h
  refine pE_rel (d := d + 2) ?_
  show pmE pG _ mi_Plan_init 0 [some (.ref a)] [] S _
  refine pE_jump 1 (pc' := 1) (ls' := [some (.ref a)]) (st' := [.ref a]) (fun _ => rfl) ?_
  by_cases c1 : pm_my S a = true
  case neg => rw [if_neg c1] at h; cases h
  rw [if_pos c1] at h
  refine pE_obj rfl rfl (Nat.le_of_ble_eq_true rfl) c1 ?_
  refine pE_jump 2 (pc' := 6) (ls' := [some (.ref a)]) (st' := [.int 0, .ref a]) (fun _ => rfl) ?_
  obtain ⟨S2, hS2, h⟩ := obind h
  refine pE_pf rfl rfl rfl hS2 ?_
  refine pE_jump 1 (pc' := 10) (ls' := [some (.ref a)]) (st' := [.ref a]) (fun _ => rfl) ?_
  obtain ⟨⟨q4, S3⟩, hq4, h⟩ := obind h
  try dsimp only at h
  refine pE_new rfl rfl ?_
  obtain ⟨rfl, rfl⟩ : ps_hi S2 = q4 ∧ pm_al S2 3 (.inr (2, [.null, .int 0, .int 0])) = S3 := by cases hq4; exact ⟨rfl, rfl⟩
  refine pE_jump 2 (pc' := 16) (ls' := [some (.ref a)]) (st' := [.int 7, .ref (ps_hi S2), .ref (ps_hi S2), .ref a]) (fun _ => rfl) ?_
  obtain ⟨S5, hS5, h⟩ := obind h
  refine pE_iv (Bs := [.int 7]) (st := [.ref (ps_hi S2), .ref a]) 2 rfl (Or.inr ⟨rfl, rfl⟩) rfl rfl (Nat.le_of_ble_eq_true rfl) (Nat.le_of_ble_eq_true rfl) (g_Ledger_init hS5) (f_Ledger_init sp (d + 1) N (pm_al S2 3 (.inr (2, [.null, .int 0, .int 0]))) (ps_hi S2) 7 _ hS5) ?_
  obtain ⟨S6, hS6, h⟩ := obind h
  refine pE_pf rfl rfl rfl hS6 ?_
  refine pE_jump 2 (pc' := 25) (ls' := [some (.ref a)]) (st' := [.int 8, .ref a]) (fun _ => rfl) ?_
  obtain ⟨⟨q7, S8⟩, hq7, h⟩ := obind h
  refine pE_nA rfl rfl hq7 ?_
  try dsimp only at h
  obtain ⟨S9, hS9, h⟩ := obind h
  refine pE_pf rfl rfl rfl hS9 ?_
  refine pE_jump 2 (pc' := 33) (ls' := [some (.ref a)]) (st' := [.int 7, .ref a]) (fun _ => rfl) ?_
  obtain ⟨⟨q10, S11⟩, hq10, h⟩ := obind h
  refine pE_nA rfl rfl hq10 ?_
  try dsimp only at h
  obtain ⟨S12, hS12, h⟩ := obind h
  refine pE_pf rfl rfl rfl hS12 ?_
  refine pE_jump 1 (pc' := 39) (ls' := [some (.ref a)]) (st' := [.ref a]) (fun _ => rfl) ?_
  obtain ⟨⟨q14, S13⟩, hq14, h⟩ := obind h
  try dsimp only at h
  refine pE_new rfl rfl ?_
  obtain ⟨rfl, rfl⟩ : ps_hi S12 = q14 ∧ pm_al S12 4 (.inr (1, [.null, .null, .null, .null])) = S13 := by cases hq14; exact ⟨rfl, rfl⟩
  refine pE_jump 1 (pc' := 43) (ls' := [some (.ref a)]) (st' := [.ref (ps_hi S12), .ref (ps_hi S12), .ref a]) (fun _ => rfl) ?_
  obtain ⟨S15, hS15, h⟩ := obind h
  refine pE_iv (Bs := []) (st := [.ref (ps_hi S12), .ref a]) 2 rfl (Or.inr ⟨rfl, rfl⟩) rfl rfl (Nat.le_of_ble_eq_true rfl) (Nat.le_of_ble_eq_true rfl) (g_Layout_init hS15) (f_Layout_init sp d N (pm_al S12 4 (.inr (1, [.null, .null, .null, .null]))) (ps_hi S12) _ hS15) ?_
  obtain ⟨S16, hS16, h⟩ := obind h
  refine pE_pf rfl rfl rfl hS16 ?_
  refine pE_jump 1 (pc' := 50) (ls' := [some (.ref a)]) (st' := [.ref a]) (fun _ => rfl) ?_
  obtain ⟨⟨q18, S17⟩, hq18, h⟩ := obind h
  try dsimp only at h
  refine pE_new rfl rfl ?_
  obtain ⟨rfl, rfl⟩ : ps_hi S16 = q18 ∧ pm_al S16 4 (.inr (1, [.null, .null, .null, .null])) = S17 := by cases hq18; exact ⟨rfl, rfl⟩
  refine pE_jump 1 (pc' := 54) (ls' := [some (.ref a)]) (st' := [.ref (ps_hi S16), .ref (ps_hi S16), .ref a]) (fun _ => rfl) ?_
  obtain ⟨S19, hS19, h⟩ := obind h
  refine pE_iv (Bs := []) (st := [.ref (ps_hi S16), .ref a]) 2 rfl (Or.inr ⟨rfl, rfl⟩) rfl rfl (Nat.le_of_ble_eq_true rfl) (Nat.le_of_ble_eq_true rfl) (g_Layout_init hS19) (f_Layout_init sp d N (pm_al S16 4 (.inr (1, [.null, .null, .null, .null]))) (ps_hi S16) _ hS19) ?_
  obtain ⟨S20, hS20, h⟩ := obind h
  refine pE_pf rfl rfl rfl hS20 ?_
  refine pE_jump 1 (pc' := 61) (ls' := [some (.ref a)]) (st' := [.ref a]) (fun _ => rfl) ?_
  obtain ⟨⟨q22, S21⟩, hq22, h⟩ := obind h
  try dsimp only at h
  refine pE_new rfl rfl ?_
  obtain ⟨rfl, rfl⟩ : ps_hi S20 = q22 ∧ pm_al S20 3 (.inr (2, [.null, .int 0, .int 0])) = S21 := by cases hq22; exact ⟨rfl, rfl⟩
  refine pE_jump 2 (pc' := 67) (ls' := [some (.ref a)]) (st' := [.int 6, .ref (ps_hi S20), .ref (ps_hi S20), .ref a]) (fun _ => rfl) ?_
  obtain ⟨S23, hS23, h⟩ := obind h
  refine pE_iv (Bs := [.int 6]) (st := [.ref (ps_hi S20), .ref a]) 2 rfl (Or.inr ⟨rfl, rfl⟩) rfl rfl (Nat.le_of_ble_eq_true rfl) (Nat.le_of_ble_eq_true rfl) (g_Ledger_init hS23) (f_Ledger_init sp (d + 1) N (pm_al S20 3 (.inr (2, [.null, .int 0, .int 0]))) (ps_hi S20) 6 _ hS23) ?_
  obtain ⟨S24, hS24, h⟩ := obind h
  refine pE_pf rfl rfl rfl hS24 ?_
  refine pE_jump 1 (pc' := 74) (ls' := [some (.ref a)]) (st' := [.ref a]) (fun _ => rfl) ?_
  obtain ⟨⟨q26, S25⟩, hq26, h⟩ := obind h
  try dsimp only at h
  refine pE_new rfl rfl ?_
  obtain ⟨rfl, rfl⟩ : ps_hi S24 = q26 ∧ pm_al S24 3 (.inr (2, [.null, .int 0, .int 0])) = S25 := by cases hq26; exact ⟨rfl, rfl⟩
  refine pE_jump 2 (pc' := 80) (ls' := [some (.ref a)]) (st' := [.int 10, .ref (ps_hi S24), .ref (ps_hi S24), .ref a]) (fun _ => rfl) ?_
  obtain ⟨S27, hS27, h⟩ := obind h
  refine pE_iv (Bs := [.int 10]) (st := [.ref (ps_hi S24), .ref a]) 2 rfl (Or.inr ⟨rfl, rfl⟩) rfl rfl (Nat.le_of_ble_eq_true rfl) (Nat.le_of_ble_eq_true rfl) (g_Ledger_init hS27) (f_Ledger_init sp (d + 1) N (pm_al S24 3 (.inr (2, [.null, .int 0, .int 0]))) (ps_hi S24) 10 _ hS27) ?_
  obtain ⟨S28, hS28, h⟩ := obind h
  refine pE_pf rfl rfl rfl hS28 ?_
  refine pE_jump 1 (pc' := 87) (ls' := [some (.ref a)]) (st' := [.ref a]) (fun _ => rfl) ?_
  obtain ⟨⟨q30, S29⟩, hq30, h⟩ := obind h
  try dsimp only at h
  refine pE_new rfl rfl ?_
  obtain ⟨rfl, rfl⟩ : ps_hi S28 = q30 ∧ pm_al S28 3 (.inr (2, [.null, .int 0, .int 0])) = S29 := by cases hq30; exact ⟨rfl, rfl⟩
  refine pE_jump 2 (pc' := 93) (ls' := [some (.ref a)]) (st' := [.int 12, .ref (ps_hi S28), .ref (ps_hi S28), .ref a]) (fun _ => rfl) ?_
  obtain ⟨S31, hS31, h⟩ := obind h
  refine pE_iv (Bs := [.int 12]) (st := [.ref (ps_hi S28), .ref a]) 2 rfl (Or.inr ⟨rfl, rfl⟩) rfl rfl (Nat.le_of_ble_eq_true rfl) (Nat.le_of_ble_eq_true rfl) (g_Ledger_init hS31) (f_Ledger_init sp (d + 1) N (pm_al S28 3 (.inr (2, [.null, .int 0, .int 0]))) (ps_hi S28) 12 _ hS31) ?_
  obtain ⟨S32, hS32, h⟩ := obind h
  refine pE_pf rfl rfl rfl hS32 ?_
  refine pE_jump 1 (pc' := 100) (ls' := [some (.ref a)]) (st' := [.ref a]) (fun _ => rfl) ?_
  obtain ⟨⟨q34, S33⟩, hq34, h⟩ := obind h
  try dsimp only at h
  refine pE_new rfl rfl ?_
  obtain ⟨rfl, rfl⟩ : ps_hi S32 = q34 ∧ pm_al S32 3 (.inr (2, [.null, .int 0, .int 0])) = S33 := by cases hq34; exact ⟨rfl, rfl⟩
  refine pE_jump 2 (pc' := 106) (ls' := [some (.ref a)]) (st' := [.int 24, .ref (ps_hi S32), .ref (ps_hi S32), .ref a]) (fun _ => rfl) ?_
  obtain ⟨S35, hS35, h⟩ := obind h
  refine pE_iv (Bs := [.int 24]) (st := [.ref (ps_hi S32), .ref a]) 2 rfl (Or.inr ⟨rfl, rfl⟩) rfl rfl (Nat.le_of_ble_eq_true rfl) (Nat.le_of_ble_eq_true rfl) (g_Ledger_init hS35) (f_Ledger_init sp (d + 1) N (pm_al S32 3 (.inr (2, [.null, .int 0, .int 0]))) (ps_hi S32) 24 _ hS35) ?_
  obtain ⟨S36, hS36, h⟩ := obind h
  refine pE_pf rfl rfl rfl hS36 ?_
  refine pE_jump 2 (pc' := 115) (ls' := [some (.ref a)]) (st' := [.int 10, .ref a]) (fun _ => rfl) ?_
  obtain ⟨⟨q37, S38⟩, hq37, h⟩ := obind h
  refine pE_nA rfl rfl hq37 ?_
  try dsimp only at h
  obtain ⟨S39, hS39, h⟩ := obind h
  refine pE_pf rfl rfl rfl hS39 ?_
  refine pE_jump 1 (pc' := 121) (ls' := [some (.ref a)]) (st' := [.ref a]) (fun _ => rfl) ?_
  obtain ⟨⟨q41, S40⟩, hq41, h⟩ := obind h
  try dsimp only at h
  refine pE_new rfl rfl ?_
  obtain ⟨rfl, rfl⟩ : ps_hi S39 = q41 ∧ pm_al S39 5 (.inr (5, [.null, .null, .int 0, .int 0, .int 0])) = S40 := by cases hq41; exact ⟨rfl, rfl⟩
  refine pE_jump 1 (pc' := 125) (ls' := [some (.ref a)]) (st' := [.ref (ps_hi S39), .ref (ps_hi S39), .ref a]) (fun _ => rfl) ?_
  obtain ⟨S42, hS42, h⟩ := obind h
  refine pE_iv (Bs := []) (st := [.ref (ps_hi S39), .ref a]) 2 rfl (Or.inr ⟨rfl, rfl⟩) rfl rfl (Nat.le_of_ble_eq_true rfl) (Nat.le_of_ble_eq_true rfl) (g_Sheet_init hS42) (f_Sheet_init sp (d + 1) N (pm_al S39 5 (.inr (5, [.null, .null, .int 0, .int 0, .int 0]))) (ps_hi S39) _ hS42) ?_
  obtain ⟨S43, hS43, h⟩ := obind h
  refine pE_pf rfl rfl rfl hS43 ?_
  refine pE_jump 1 (pc' := 132) (ls' := [some (.ref a)]) (st' := [.ref a]) (fun _ => rfl) ?_
  obtain ⟨oq44, hq44, h⟩ := obind h
  cases oq44 with
  | none => cases h
  | some q44 =>
    try dsimp only at h
    refine pE_gfS rfl rfl hq44 ?_
    refine pE_jump 1 (pc' := 136) (ls' := [some (.ref a)]) (st' := [.int (-1), .ref q44]) (fun _ => rfl) ?_
    obtain ⟨S45, hS45, h⟩ := obind h
    refine pE_is (Bs := [.ref q44, .int (-1)]) (st := []) rfl rfl rfl (Nat.le_of_ble_eq_true rfl) (Nat.le_of_ble_eq_true rfl) (f_Arr_fill sp (d + 1) N S43 q44 (-1) _ hS45) ?_
    refine pE_jump 1 (pc' := 140) (ls' := [some (.ref a)]) (st' := [.ref a]) (fun _ => rfl) ?_
    obtain ⟨oq46, hq46, h⟩ := obind h
    cases oq46 with
    | none => cases h
    | some q46 =>
      try dsimp only at h
      refine pE_gfS rfl rfl hq46 ?_
      refine pE_jump 1 (pc' := 144) (ls' := [some (.ref a)]) (st' := [.int (-1), .ref q46]) (fun _ => rfl) ?_
      obtain ⟨S47, hS47, h⟩ := obind h
      refine pE_is (Bs := [.ref q46, .int (-1)]) (st := []) rfl rfl rfl (Nat.le_of_ble_eq_true rfl) (Nat.le_of_ble_eq_true rfl) (f_Arr_fill sp (d + 1) N S45 q46 (-1) _ hS47) ?_
      cases h
      exact pE_ret rfl rfl rfl
def F_Wires_init (N : Nat) (S : pm_S) (a : Nat) : Option pm_S :=
    if rcv S a 9 = true then
    (if pm_my S a = true then
    ((some (ps_hi S, pm_al S 4 (.inr (1, [.null, .null, .null, .null])))).bind fun (q3, S2) =>
    (F_Layout_init N S2 q3).bind fun S4 =>
    (wF S4 a 9 0 (.object "BuriedPairs$Layout") (.ref q3)).bind fun S5 =>
    (nA S5 0 56).bind fun (q6, S7) =>
    (wF S7 a 9 1 (.array .int) (.ref q6)).bind fun S8 =>
    (nA S8 0 56).bind fun (q9, S10) =>
    (wF S10 a 9 2 (.array .int) (.ref q9)).bind fun S11 =>
    (nA S11 0 56).bind fun (q12, S13) =>
    (wF S13 a 9 3 (.array .int) (.ref q12)).bind fun S14 =>
    (nA S14 0 10).bind fun (q15, S16) =>
    (wF S16 a 9 4 (.array .int) (.ref q15)).bind fun S17 =>
    (nA S17 0 10).bind fun (q18, S19) =>
    (wF S19 a 9 5 (.array .int) (.ref q18)).bind fun S20 =>
    (nA S20 0 10).bind fun (q21, S22) =>
    (wF S22 a 9 6 (.array .int) (.ref q21)).bind fun S23 =>
    (nA S23 0 10).bind fun (q24, S25) =>
    (wF S25 a 9 7 (.array .int) (.ref q24)).bind fun S26 =>
    (nA S26 0 10).bind fun (q27, S28) =>
    (wF S28 a 9 8 (.array .int) (.ref q27)).bind fun S29 =>
    (some (ps_hi S29, pm_al S29 12 (.inr (4, [.int 0, .null, .null, .null, .null, .null, .null, .null, .null, .null, .null, .null])))).bind fun (q31, S30) =>
    (F_Plan_init N S30 q31).bind fun S32 =>
    (wF S32 a 9 9 (.object "BuriedPairs$Plan") (.ref q31)).bind fun S33 =>
    (oR S33 a 9 0).bind fun oq34 => match oq34 with
    | none => ((wF S33 a 9 10 (.object "BuriedPairs$Layout") (.null)).bind fun S35 =>
    (wF S35 a 9 11 .int (.int 0)).bind fun S36 =>
    (wF S36 a 9 12 .int (.int 0)).bind fun S37 =>
    some S37)
    | some q34 =>
    (wF S33 a 9 10 (.object "BuriedPairs$Layout") (.ref q34)).bind fun S38 =>
    (wF S38 a 9 11 .int (.int 0)).bind fun S39 =>
    (wF S39 a 9 12 .int (.int 0)).bind fun S40 =>
    some S40)
    else none)
    else none
theorem g_Wires_init {N : Nat} {S : pm_S} {a : Nat} {r : pm_S} (h : F_Wires_init N S a = some r) : rcv S a 9 = true := by
  unfold F_Wires_init at h
  by_cases c : rcv S a 9 = true
  · exact c
  · rw [if_neg c] at h; cases h
set_option maxHeartbeats 4000000 in
set_option maxRecDepth 20000 in
theorem f_Wires_init (sp : pm_I → List Value → pm_S → pm_O → Prop) (d N : Nat) (S : pm_S) (a : Nat) (r : pm_S) (h : F_Wires_init N S a = some r) : pm_rel pG sp (d + 4) mi_Wires_init [.ref a] S (none, r) := by
  have hg := g_Wires_init h
  unfold F_Wires_init at h
  rw [if_pos hg] at h
  refine pE_rel (d := d + 3) ?_
  show pmE pG _ mi_Wires_init 0 [some (.ref a)] [] S _
  refine pE_jump 1 (pc' := 1) (ls' := [some (.ref a)]) (st' := [.ref a]) (fun _ => rfl) ?_
  by_cases c1 : pm_my S a = true
  case neg => rw [if_neg c1] at h; cases h
  rw [if_pos c1] at h
  refine pE_obj rfl rfl (Nat.le_of_ble_eq_true rfl) c1 ?_
  refine pE_jump 1 (pc' := 5) (ls' := [some (.ref a)]) (st' := [.ref a]) (fun _ => rfl) ?_
  obtain ⟨⟨q3, S2⟩, hq3, h⟩ := obind h
  try dsimp only at h
  refine pE_new rfl rfl ?_
  obtain ⟨rfl, rfl⟩ : ps_hi S = q3 ∧ pm_al S 4 (.inr (1, [.null, .null, .null, .null])) = S2 := by cases hq3; exact ⟨rfl, rfl⟩
  refine pE_jump 1 (pc' := 9) (ls' := [some (.ref a)]) (st' := [.ref (ps_hi S), .ref (ps_hi S), .ref a]) (fun _ => rfl) ?_
  obtain ⟨S4, hS4, h⟩ := obind h
  refine pE_iv (Bs := []) (st := [.ref (ps_hi S), .ref a]) 2 rfl (Or.inr ⟨rfl, rfl⟩) rfl rfl (Nat.le_of_ble_eq_true rfl) (Nat.le_of_ble_eq_true rfl) (g_Layout_init hS4) (f_Layout_init sp (d + 1) N (pm_al S 4 (.inr (1, [.null, .null, .null, .null]))) (ps_hi S) _ hS4) ?_
  obtain ⟨S5, hS5, h⟩ := obind h
  refine pE_pf rfl rfl rfl hS5 ?_
  refine pE_jump 2 (pc' := 18) (ls' := [some (.ref a)]) (st' := [.int 56, .ref a]) (fun _ => rfl) ?_
  obtain ⟨⟨q6, S7⟩, hq6, h⟩ := obind h
  refine pE_nA rfl rfl hq6 ?_
  try dsimp only at h
  obtain ⟨S8, hS8, h⟩ := obind h
  refine pE_pf rfl rfl rfl hS8 ?_
  refine pE_jump 2 (pc' := 26) (ls' := [some (.ref a)]) (st' := [.int 56, .ref a]) (fun _ => rfl) ?_
  obtain ⟨⟨q9, S10⟩, hq9, h⟩ := obind h
  refine pE_nA rfl rfl hq9 ?_
  try dsimp only at h
  obtain ⟨S11, hS11, h⟩ := obind h
  refine pE_pf rfl rfl rfl hS11 ?_
  refine pE_jump 2 (pc' := 34) (ls' := [some (.ref a)]) (st' := [.int 56, .ref a]) (fun _ => rfl) ?_
  obtain ⟨⟨q12, S13⟩, hq12, h⟩ := obind h
  refine pE_nA rfl rfl hq12 ?_
  try dsimp only at h
  obtain ⟨S14, hS14, h⟩ := obind h
  refine pE_pf rfl rfl rfl hS14 ?_
  refine pE_jump 2 (pc' := 42) (ls' := [some (.ref a)]) (st' := [.int 10, .ref a]) (fun _ => rfl) ?_
  obtain ⟨⟨q15, S16⟩, hq15, h⟩ := obind h
  refine pE_nA rfl rfl hq15 ?_
  try dsimp only at h
  obtain ⟨S17, hS17, h⟩ := obind h
  refine pE_pf rfl rfl rfl hS17 ?_
  refine pE_jump 2 (pc' := 50) (ls' := [some (.ref a)]) (st' := [.int 10, .ref a]) (fun _ => rfl) ?_
  obtain ⟨⟨q18, S19⟩, hq18, h⟩ := obind h
  refine pE_nA rfl rfl hq18 ?_
  try dsimp only at h
  obtain ⟨S20, hS20, h⟩ := obind h
  refine pE_pf rfl rfl rfl hS20 ?_
  refine pE_jump 2 (pc' := 58) (ls' := [some (.ref a)]) (st' := [.int 10, .ref a]) (fun _ => rfl) ?_
  obtain ⟨⟨q21, S22⟩, hq21, h⟩ := obind h
  refine pE_nA rfl rfl hq21 ?_
  try dsimp only at h
  obtain ⟨S23, hS23, h⟩ := obind h
  refine pE_pf rfl rfl rfl hS23 ?_
  refine pE_jump 2 (pc' := 66) (ls' := [some (.ref a)]) (st' := [.int 10, .ref a]) (fun _ => rfl) ?_
  obtain ⟨⟨q24, S25⟩, hq24, h⟩ := obind h
  refine pE_nA rfl rfl hq24 ?_
  try dsimp only at h
  obtain ⟨S26, hS26, h⟩ := obind h
  refine pE_pf rfl rfl rfl hS26 ?_
  refine pE_jump 2 (pc' := 74) (ls' := [some (.ref a)]) (st' := [.int 10, .ref a]) (fun _ => rfl) ?_
  obtain ⟨⟨q27, S28⟩, hq27, h⟩ := obind h
  refine pE_nA rfl rfl hq27 ?_
  try dsimp only at h
  obtain ⟨S29, hS29, h⟩ := obind h
  refine pE_pf rfl rfl rfl hS29 ?_
  refine pE_jump 1 (pc' := 80) (ls' := [some (.ref a)]) (st' := [.ref a]) (fun _ => rfl) ?_
  obtain ⟨⟨q31, S30⟩, hq31, h⟩ := obind h
  try dsimp only at h
  refine pE_new rfl rfl ?_
  obtain ⟨rfl, rfl⟩ : ps_hi S29 = q31 ∧ pm_al S29 12 (.inr (4, [.int 0, .null, .null, .null, .null, .null, .null, .null, .null, .null, .null, .null])) = S30 := by cases hq31; exact ⟨rfl, rfl⟩
  refine pE_jump 1 (pc' := 84) (ls' := [some (.ref a)]) (st' := [.ref (ps_hi S29), .ref (ps_hi S29), .ref a]) (fun _ => rfl) ?_
  obtain ⟨S32, hS32, h⟩ := obind h
  refine pE_iv (Bs := []) (st := [.ref (ps_hi S29), .ref a]) 2 rfl (Or.inr ⟨rfl, rfl⟩) rfl rfl (Nat.le_of_ble_eq_true rfl) (Nat.le_of_ble_eq_true rfl) (g_Plan_init hS32) (f_Plan_init sp d N (pm_al S29 12 (.inr (4, [.int 0, .null, .null, .null, .null, .null, .null, .null, .null, .null, .null, .null]))) (ps_hi S29) _ hS32) ?_
  obtain ⟨S33, hS33, h⟩ := obind h
  refine pE_pf rfl rfl rfl hS33 ?_
  refine pE_jump 2 (pc' := 92) (ls' := [some (.ref a)]) (st' := [.ref a, .ref a]) (fun _ => rfl) ?_
  obtain ⟨oq34, hq34, h⟩ := obind h
  cases oq34 with
  | none =>
    try dsimp only at h
    refine pE_gfN rfl rfl hq34 ?_
    obtain ⟨S35, hS35, h⟩ := obind h
    refine pE_pf rfl rfl rfl hS35 ?_
    refine pE_jump 2 (pc' := 100) (ls' := [some (.ref a)]) (st' := [.int 0, .ref a]) (fun _ => rfl) ?_
    obtain ⟨S36, hS36, h⟩ := obind h
    refine pE_pf rfl rfl rfl hS36 ?_
    refine pE_jump 2 (pc' := 105) (ls' := [some (.ref a)]) (st' := [.int 0, .ref a]) (fun _ => rfl) ?_
    obtain ⟨S37, hS37, h⟩ := obind h
    refine pE_pf rfl rfl rfl hS37 ?_
    cases h
    exact pE_ret rfl rfl rfl
  | some q34 =>
    try dsimp only at h
    refine pE_gfS rfl rfl hq34 ?_
    obtain ⟨S38, hS38, h⟩ := obind h
    refine pE_pf rfl rfl rfl hS38 ?_
    refine pE_jump 2 (pc' := 100) (ls' := [some (.ref a)]) (st' := [.int 0, .ref a]) (fun _ => rfl) ?_
    obtain ⟨S39, hS39, h⟩ := obind h
    refine pE_pf rfl rfl rfl hS39 ?_
    refine pE_jump 2 (pc' := 105) (ls' := [some (.ref a)]) (st' := [.int 0, .ref a]) (fun _ => rfl) ?_
    obtain ⟨S40, hS40, h⟩ := obind h
    refine pE_pf rfl rfl rfl hS40 ?_
    cases h
    exact pE_ret rfl rfl rfl
def F_Tone_init (N : Nat) (S : pm_S) (a : Nat) : Option pm_S :=
    if rcv S a 8 = true then
    (if pm_my S a = true then
    ((nA S 0 56).bind fun (q2, S3) =>
    (wF S3 a 8 0 (.array .int) (.ref q2)).bind fun S4 =>
    (nA S4 0 616).bind fun (q5, S6) =>
    (wF S6 a 8 1 (.array .int) (.ref q5)).bind fun S7 =>
    (nA S7 0 7).bind fun (q8, S9) =>
    (wF S9 a 8 2 (.array .int) (.ref q8)).bind fun S10 =>
    (nA S10 0 7).bind fun (q11, S12) =>
    (wF S12 a 8 3 (.array .int) (.ref q11)).bind fun S13 =>
    (wF S13 a 8 4 .int (.int 0)).bind fun S14 =>
    some S14)
    else none)
    else none
theorem g_Tone_init {N : Nat} {S : pm_S} {a : Nat} {r : pm_S} (h : F_Tone_init N S a = some r) : rcv S a 8 = true := by
  unfold F_Tone_init at h
  by_cases c : rcv S a 8 = true
  · exact c
  · rw [if_neg c] at h; cases h
set_option maxHeartbeats 4000000 in
set_option maxRecDepth 20000 in
theorem f_Tone_init (sp : pm_I → List Value → pm_S → pm_O → Prop) (d N : Nat) (S : pm_S) (a : Nat) (r : pm_S) (h : F_Tone_init N S a = some r) : pm_rel pG sp (d + 1) mi_Tone_init [.ref a] S (none, r) := by
  have hg := g_Tone_init h
  unfold F_Tone_init at h
  rw [if_pos hg] at h
  refine pE_rel (d := d + 0) ?_
  show pmE pG _ mi_Tone_init 0 [some (.ref a)] [] S _
  refine pE_jump 1 (pc' := 1) (ls' := [some (.ref a)]) (st' := [.ref a]) (fun _ => rfl) ?_
  by_cases c1 : pm_my S a = true
  case neg => rw [if_neg c1] at h; cases h
  rw [if_pos c1] at h
  refine pE_obj rfl rfl (Nat.le_of_ble_eq_true rfl) c1 ?_
  refine pE_jump 2 (pc' := 7) (ls' := [some (.ref a)]) (st' := [.int 56, .ref a]) (fun _ => rfl) ?_
  obtain ⟨⟨q2, S3⟩, hq2, h⟩ := obind h
  refine pE_nA rfl rfl hq2 ?_
  try dsimp only at h
  obtain ⟨S4, hS4, h⟩ := obind h
  refine pE_pf rfl rfl rfl hS4 ?_
  refine pE_jump 2 (pc' := 16) (ls' := [some (.ref a)]) (st' := [.int 616, .ref a]) (fun _ => rfl) ?_
  obtain ⟨⟨q5, S6⟩, hq5, h⟩ := obind h
  refine pE_nA rfl rfl hq5 ?_
  try dsimp only at h
  obtain ⟨S7, hS7, h⟩ := obind h
  refine pE_pf rfl rfl rfl hS7 ?_
  refine pE_jump 2 (pc' := 24) (ls' := [some (.ref a)]) (st' := [.int 7, .ref a]) (fun _ => rfl) ?_
  obtain ⟨⟨q8, S9⟩, hq8, h⟩ := obind h
  refine pE_nA rfl rfl hq8 ?_
  try dsimp only at h
  obtain ⟨S10, hS10, h⟩ := obind h
  refine pE_pf rfl rfl rfl hS10 ?_
  refine pE_jump 2 (pc' := 32) (ls' := [some (.ref a)]) (st' := [.int 7, .ref a]) (fun _ => rfl) ?_
  obtain ⟨⟨q11, S12⟩, hq11, h⟩ := obind h
  refine pE_nA rfl rfl hq11 ?_
  try dsimp only at h
  obtain ⟨S13, hS13, h⟩ := obind h
  refine pE_pf rfl rfl rfl hS13 ?_
  refine pE_jump 2 (pc' := 39) (ls' := [some (.ref a)]) (st' := [.int 0, .ref a]) (fun _ => rfl) ?_
  obtain ⟨S14, hS14, h⟩ := obind h
  refine pE_pf rfl rfl rfl hS14 ?_
  cases h
  exact pE_ret rfl rfl rfl
def F_Bench_init (N : Nat) (S : pm_S) (a : Nat) : Option pm_S :=
    if rcv S a 0 = true then
    (if pm_my S a = true then
    ((some (ps_hi S, pm_al S 13 (.inr (9, [.null, .null, .null, .null, .null, .null, .null, .null, .null, .null, .null, .int 0, .int 0])))).bind fun (q3, S2) =>
    (F_Wires_init N S2 q3).bind fun S4 =>
    (wF S4 a 0 0 (.object "BuriedPairs$Wires") (.ref q3)).bind fun S5 =>
    (some (ps_hi S5, pm_al S5 5 (.inr (8, [.null, .null, .null, .null, .int 0])))).bind fun (q7, S6) =>
    (F_Tone_init N S6 q7).bind fun S8 =>
    (wF S8 a 0 1 (.object "BuriedPairs$Tone") (.ref q7)).bind fun S9 =>
    (nA S9 1 10).bind fun (q10, S11) =>
    (wF S11 a 0 2 (.array .long) (.ref q10)).bind fun S12 =>
    (nA S12 0 2776).bind fun (q13, S14) =>
    (wF S14 a 0 3 (.array .int) (.ref q13)).bind fun S15 =>
    (wF S15 a 0 4 .int (.int 0)).bind fun S16 =>
    (wF S16 a 0 5 .int (.int 0)).bind fun S17 =>
    some S17)
    else none)
    else none
theorem g_Bench_init {N : Nat} {S : pm_S} {a : Nat} {r : pm_S} (h : F_Bench_init N S a = some r) : rcv S a 0 = true := by
  unfold F_Bench_init at h
  by_cases c : rcv S a 0 = true
  · exact c
  · rw [if_neg c] at h; cases h
set_option maxHeartbeats 4000000 in
set_option maxRecDepth 20000 in
theorem f_Bench_init (sp : pm_I → List Value → pm_S → pm_O → Prop) (d N : Nat) (S : pm_S) (a : Nat) (r : pm_S) (h : F_Bench_init N S a = some r) : pm_rel pG sp (d + 5) mi_Bench_init [.ref a] S (none, r) := by
  have hg := g_Bench_init h
  unfold F_Bench_init at h
  rw [if_pos hg] at h
  refine pE_rel (d := d + 4) ?_
  show pmE pG _ mi_Bench_init 0 [some (.ref a)] [] S _
  refine pE_jump 1 (pc' := 1) (ls' := [some (.ref a)]) (st' := [.ref a]) (fun _ => rfl) ?_
  by_cases c1 : pm_my S a = true
  case neg => rw [if_neg c1] at h; cases h
  rw [if_pos c1] at h
  refine pE_obj rfl rfl (Nat.le_of_ble_eq_true rfl) c1 ?_
  refine pE_jump 1 (pc' := 5) (ls' := [some (.ref a)]) (st' := [.ref a]) (fun _ => rfl) ?_
  obtain ⟨⟨q3, S2⟩, hq3, h⟩ := obind h
  try dsimp only at h
  refine pE_new rfl rfl ?_
  obtain ⟨rfl, rfl⟩ : ps_hi S = q3 ∧ pm_al S 13 (.inr (9, [.null, .null, .null, .null, .null, .null, .null, .null, .null, .null, .null, .int 0, .int 0])) = S2 := by cases hq3; exact ⟨rfl, rfl⟩
  refine pE_jump 1 (pc' := 9) (ls' := [some (.ref a)]) (st' := [.ref (ps_hi S), .ref (ps_hi S), .ref a]) (fun _ => rfl) ?_
  obtain ⟨S4, hS4, h⟩ := obind h
  refine pE_iv (Bs := []) (st := [.ref (ps_hi S), .ref a]) 2 rfl (Or.inr ⟨rfl, rfl⟩) rfl rfl (Nat.le_of_ble_eq_true rfl) (Nat.le_of_ble_eq_true rfl) (g_Wires_init hS4) (f_Wires_init sp d N (pm_al S 13 (.inr (9, [.null, .null, .null, .null, .null, .null, .null, .null, .null, .null, .null, .int 0, .int 0]))) (ps_hi S) _ hS4) ?_
  obtain ⟨S5, hS5, h⟩ := obind h
  refine pE_pf rfl rfl rfl hS5 ?_
  refine pE_jump 1 (pc' := 16) (ls' := [some (.ref a)]) (st' := [.ref a]) (fun _ => rfl) ?_
  obtain ⟨⟨q7, S6⟩, hq7, h⟩ := obind h
  try dsimp only at h
  refine pE_new rfl rfl ?_
  obtain ⟨rfl, rfl⟩ : ps_hi S5 = q7 ∧ pm_al S5 5 (.inr (8, [.null, .null, .null, .null, .int 0])) = S6 := by cases hq7; exact ⟨rfl, rfl⟩
  refine pE_jump 1 (pc' := 20) (ls' := [some (.ref a)]) (st' := [.ref (ps_hi S5), .ref (ps_hi S5), .ref a]) (fun _ => rfl) ?_
  obtain ⟨S8, hS8, h⟩ := obind h
  refine pE_iv (Bs := []) (st := [.ref (ps_hi S5), .ref a]) 2 rfl (Or.inr ⟨rfl, rfl⟩) rfl rfl (Nat.le_of_ble_eq_true rfl) (Nat.le_of_ble_eq_true rfl) (g_Tone_init hS8) (f_Tone_init sp (d + 3) N (pm_al S5 5 (.inr (8, [.null, .null, .null, .null, .int 0]))) (ps_hi S5) _ hS8) ?_
  obtain ⟨S9, hS9, h⟩ := obind h
  refine pE_pf rfl rfl rfl hS9 ?_
  refine pE_jump 2 (pc' := 29) (ls' := [some (.ref a)]) (st' := [.int 10, .ref a]) (fun _ => rfl) ?_
  obtain ⟨⟨q10, S11⟩, hq10, h⟩ := obind h
  refine pE_nA rfl rfl hq10 ?_
  try dsimp only at h
  obtain ⟨S12, hS12, h⟩ := obind h
  refine pE_pf rfl rfl rfl hS12 ?_
  refine pE_jump 2 (pc' := 38) (ls' := [some (.ref a)]) (st' := [.int 2776, .ref a]) (fun _ => rfl) ?_
  obtain ⟨⟨q13, S14⟩, hq13, h⟩ := obind h
  refine pE_nA rfl rfl hq13 ?_
  try dsimp only at h
  obtain ⟨S15, hS15, h⟩ := obind h
  refine pE_pf rfl rfl rfl hS15 ?_
  refine pE_jump 2 (pc' := 45) (ls' := [some (.ref a)]) (st' := [.int 0, .ref a]) (fun _ => rfl) ?_
  obtain ⟨S16, hS16, h⟩ := obind h
  refine pE_pf rfl rfl rfl hS16 ?_
  refine pE_jump 2 (pc' := 50) (ls' := [some (.ref a)]) (st' := [.int 0, .ref a]) (fun _ => rfl) ?_
  obtain ⟨S17, hS17, h⟩ := obind h
  refine pE_pf rfl rfl rfl hS17 ?_
  cases h
  exact pE_ret rfl rfl rfl
def F_Mover_init (N : Nat) (S : pm_S) (a : Nat) : Option pm_S :=
    if rcv S a 3 = true then
    (if pm_my S a = true then
    ((nA S 0 10).bind fun (q2, S3) =>
    (wF S3 a 3 0 (.array .int) (.ref q2)).bind fun S4 =>
    (nA S4 0 10).bind fun (q5, S6) =>
    (wF S6 a 3 1 (.array .int) (.ref q5)).bind fun S7 =>
    (nA S7 0 20).bind fun (q8, S9) =>
    (wF S9 a 3 2 (.array .int) (.ref q8)).bind fun S10 =>
    (wF S10 a 3 3 .int (.int 0)).bind fun S11 =>
    (wF S11 a 3 4 .int (.int 0)).bind fun S12 =>
    (wF S12 a 3 5 .int (.int 0)).bind fun S13 =>
    some S13)
    else none)
    else none
theorem g_Mover_init {N : Nat} {S : pm_S} {a : Nat} {r : pm_S} (h : F_Mover_init N S a = some r) : rcv S a 3 = true := by
  unfold F_Mover_init at h
  by_cases c : rcv S a 3 = true
  · exact c
  · rw [if_neg c] at h; cases h
set_option maxHeartbeats 4000000 in
set_option maxRecDepth 20000 in
theorem f_Mover_init (sp : pm_I → List Value → pm_S → pm_O → Prop) (d N : Nat) (S : pm_S) (a : Nat) (r : pm_S) (h : F_Mover_init N S a = some r) : pm_rel pG sp (d + 1) mi_Mover_init [.ref a] S (none, r) := by
  have hg := g_Mover_init h
  unfold F_Mover_init at h
  rw [if_pos hg] at h
  refine pE_rel (d := d + 0) ?_
  show pmE pG _ mi_Mover_init 0 [some (.ref a)] [] S _
  refine pE_jump 1 (pc' := 1) (ls' := [some (.ref a)]) (st' := [.ref a]) (fun _ => rfl) ?_
  by_cases c1 : pm_my S a = true
  case neg => rw [if_neg c1] at h; cases h
  rw [if_pos c1] at h
  refine pE_obj rfl rfl (Nat.le_of_ble_eq_true rfl) c1 ?_
  refine pE_jump 2 (pc' := 7) (ls' := [some (.ref a)]) (st' := [.int 10, .ref a]) (fun _ => rfl) ?_
  obtain ⟨⟨q2, S3⟩, hq2, h⟩ := obind h
  refine pE_nA rfl rfl hq2 ?_
  try dsimp only at h
  obtain ⟨S4, hS4, h⟩ := obind h
  refine pE_pf rfl rfl rfl hS4 ?_
  refine pE_jump 2 (pc' := 15) (ls' := [some (.ref a)]) (st' := [.int 10, .ref a]) (fun _ => rfl) ?_
  obtain ⟨⟨q5, S6⟩, hq5, h⟩ := obind h
  refine pE_nA rfl rfl hq5 ?_
  try dsimp only at h
  obtain ⟨S7, hS7, h⟩ := obind h
  refine pE_pf rfl rfl rfl hS7 ?_
  refine pE_jump 2 (pc' := 23) (ls' := [some (.ref a)]) (st' := [.int 20, .ref a]) (fun _ => rfl) ?_
  obtain ⟨⟨q8, S9⟩, hq8, h⟩ := obind h
  refine pE_nA rfl rfl hq8 ?_
  try dsimp only at h
  obtain ⟨S10, hS10, h⟩ := obind h
  refine pE_pf rfl rfl rfl hS10 ?_
  refine pE_jump 2 (pc' := 30) (ls' := [some (.ref a)]) (st' := [.int 0, .ref a]) (fun _ => rfl) ?_
  obtain ⟨S11, hS11, h⟩ := obind h
  refine pE_pf rfl rfl rfl hS11 ?_
  refine pE_jump 2 (pc' := 35) (ls' := [some (.ref a)]) (st' := [.int 0, .ref a]) (fun _ => rfl) ?_
  obtain ⟨S12, hS12, h⟩ := obind h
  refine pE_pf rfl rfl rfl hS12 ?_
  refine pE_jump 2 (pc' := 40) (ls' := [some (.ref a)]) (st' := [.int 0, .ref a]) (fun _ => rfl) ?_
  obtain ⟨S13, hS13, h⟩ := obind h
  refine pE_pf rfl rfl rfl hS13 ?_
  cases h
  exact pE_ret rfl rfl rfl
def F_BP_init (N : Nat) (S : pm_S) (a : Nat) : Option pm_S :=
    if rcv S a 10 = true then
    (if pm_my S a = true then
    ((some (ps_hi S, pm_al S 2 (.inr (6, [.null, .int 0])))).bind fun (q3, S2) =>
    (F_Tape_init N S2 q3).bind fun S4 =>
    (wF S4 a 10 0 (.object "BuriedPairs$Tape") (.ref q3)).bind fun S5 =>
    (some (ps_hi S5, pm_al S5 3 (.inr (7, [.null, .int 0, .int 0])))).bind fun (q7, S6) =>
    (oR S6 a 10 0).bind fun oq8 => match oq8 with
    | none => none
    | some q8 =>
    (F_Reader_init N S6 q7 q8).bind fun S9 =>
    (wF S9 a 10 1 (.object "BuriedPairs$TextReader") (.ref q7)).bind fun S10 =>
    (nA S10 4 6).bind fun (q11, S12) =>
    (wF S12 a 10 2 (.array (.object "BuriedPairs$Plan")) (.ref q11)).bind fun S13 =>
    (some (ps_hi S13, pm_al S13 6 (.inr (0, [.null, .null, .null, .null, .int 0, .int 0])))).bind fun (q15, S14) =>
    (F_Bench_init N S14 q15).bind fun S16 =>
    (wF S16 a 10 3 (.object "BuriedPairs$Bench") (.ref q15)).bind fun S17 =>
    (some (ps_hi S17, pm_al S17 6 (.inr (3, [.null, .null, .null, .int 0, .int 0, .int 0])))).bind fun (q19, S18) =>
    (F_Mover_init N S18 q19).bind fun S20 =>
    (wF S20 a 10 4 (.object "BuriedPairs$Mover") (.ref q19)).bind fun S21 =>
    (some (ps_hi S21, pm_al S21 12 (.inr (4, [.int 0, .null, .null, .null, .null, .null, .null, .null, .null, .null, .null, .null])))).bind fun (q23, S22) =>
    (F_Plan_init N S22 q23).bind fun S24 =>
    (wF S24 a 10 5 (.object "BuriedPairs$Plan") (.ref q23)).bind fun S25 =>
    (wF S25 a 10 6 .int (.int 0)).bind fun S26 =>
    some S26)
    else none)
    else none
theorem g_BP_init {N : Nat} {S : pm_S} {a : Nat} {r : pm_S} (h : F_BP_init N S a = some r) : rcv S a 10 = true := by
  unfold F_BP_init at h
  by_cases c : rcv S a 10 = true
  · exact c
  · rw [if_neg c] at h; cases h
set_option maxHeartbeats 4000000 in
set_option maxRecDepth 20000 in
theorem f_BP_init (sp : pm_I → List Value → pm_S → pm_O → Prop) (d N : Nat) (S : pm_S) (a : Nat) (r : pm_S) (h : F_BP_init N S a = some r) : pm_rel pG sp (d + 6) mi_BP_init [.ref a] S (none, r) := by
  have hg := g_BP_init h
  unfold F_BP_init at h
  rw [if_pos hg] at h
  refine pE_rel (d := d + 5) ?_
  show pmE pG _ mi_BP_init 0 [some (.ref a)] [] S _
  refine pE_jump 1 (pc' := 1) (ls' := [some (.ref a)]) (st' := [.ref a]) (fun _ => rfl) ?_
  by_cases c1 : pm_my S a = true
  case neg => rw [if_neg c1] at h; cases h
  rw [if_pos c1] at h
  refine pE_obj rfl rfl (Nat.le_of_ble_eq_true rfl) c1 ?_
  refine pE_jump 1 (pc' := 5) (ls' := [some (.ref a)]) (st' := [.ref a]) (fun _ => rfl) ?_
  obtain ⟨⟨q3, S2⟩, hq3, h⟩ := obind h
  try dsimp only at h
  refine pE_new rfl rfl ?_
  obtain ⟨rfl, rfl⟩ : ps_hi S = q3 ∧ pm_al S 2 (.inr (6, [.null, .int 0])) = S2 := by cases hq3; exact ⟨rfl, rfl⟩
  refine pE_jump 1 (pc' := 9) (ls' := [some (.ref a)]) (st' := [.ref (ps_hi S), .ref (ps_hi S), .ref a]) (fun _ => rfl) ?_
  obtain ⟨S4, hS4, h⟩ := obind h
  refine pE_iv (Bs := []) (st := [.ref (ps_hi S), .ref a]) 2 rfl (Or.inr ⟨rfl, rfl⟩) rfl rfl (Nat.le_of_ble_eq_true rfl) (Nat.le_of_ble_eq_true rfl) (g_Tape_init hS4) (f_Tape_init sp (d + 4) N (pm_al S 2 (.inr (6, [.null, .int 0]))) (ps_hi S) _ hS4) ?_
  obtain ⟨S5, hS5, h⟩ := obind h
  refine pE_pf rfl rfl rfl hS5 ?_
  refine pE_jump 1 (pc' := 16) (ls' := [some (.ref a)]) (st' := [.ref a]) (fun _ => rfl) ?_
  obtain ⟨⟨q7, S6⟩, hq7, h⟩ := obind h
  try dsimp only at h
  refine pE_new rfl rfl ?_
  obtain ⟨rfl, rfl⟩ : ps_hi S5 = q7 ∧ pm_al S5 3 (.inr (7, [.null, .int 0, .int 0])) = S6 := by cases hq7; exact ⟨rfl, rfl⟩
  refine pE_jump 2 (pc' := 21) (ls' := [some (.ref a)]) (st' := [.ref a, .ref (ps_hi S5), .ref (ps_hi S5), .ref a]) (fun _ => rfl) ?_
  obtain ⟨oq8, hq8, h⟩ := obind h
  cases oq8 with
  | none => cases h
  | some q8 =>
    try dsimp only at h
    refine pE_gfS rfl rfl hq8 ?_
    obtain ⟨S9, hS9, h⟩ := obind h
    refine pE_iv (Bs := [.ref q8]) (st := [.ref (ps_hi S5), .ref a]) 2 rfl (Or.inr ⟨rfl, rfl⟩) rfl rfl (Nat.le_of_ble_eq_true rfl) (Nat.le_of_ble_eq_true rfl) (g_Reader_init hS9) (f_Reader_init sp (d + 4) N (pm_al S5 3 (.inr (7, [.null, .int 0, .int 0]))) (ps_hi S5) q8 _ hS9) ?_
    obtain ⟨S10, hS10, h⟩ := obind h
    refine pE_pf rfl rfl rfl hS10 ?_
    refine pE_jump 2 (pc' := 33) (ls' := [some (.ref a)]) (st' := [.int 6, .ref a]) (fun _ => rfl) ?_
    obtain ⟨⟨q11, S12⟩, hq11, h⟩ := obind h
    refine pE_nQ rfl rfl (by decide) hq11 ?_
    try dsimp only at h
    obtain ⟨S13, hS13, h⟩ := obind h
    refine pE_pf rfl rfl rfl hS13 ?_
    refine pE_jump 1 (pc' := 40) (ls' := [some (.ref a)]) (st' := [.ref a]) (fun _ => rfl) ?_
    obtain ⟨⟨q15, S14⟩, hq15, h⟩ := obind h
    try dsimp only at h
    refine pE_new rfl rfl ?_
    obtain ⟨rfl, rfl⟩ : ps_hi S13 = q15 ∧ pm_al S13 6 (.inr (0, [.null, .null, .null, .null, .int 0, .int 0])) = S14 := by cases hq15; exact ⟨rfl, rfl⟩
    refine pE_jump 1 (pc' := 44) (ls' := [some (.ref a)]) (st' := [.ref (ps_hi S13), .ref (ps_hi S13), .ref a]) (fun _ => rfl) ?_
    obtain ⟨S16, hS16, h⟩ := obind h
    refine pE_iv (Bs := []) (st := [.ref (ps_hi S13), .ref a]) 2 rfl (Or.inr ⟨rfl, rfl⟩) rfl rfl (Nat.le_of_ble_eq_true rfl) (Nat.le_of_ble_eq_true rfl) (g_Bench_init hS16) (f_Bench_init sp d N (pm_al S13 6 (.inr (0, [.null, .null, .null, .null, .int 0, .int 0]))) (ps_hi S13) _ hS16) ?_
    obtain ⟨S17, hS17, h⟩ := obind h
    refine pE_pf rfl rfl rfl hS17 ?_
    refine pE_jump 1 (pc' := 51) (ls' := [some (.ref a)]) (st' := [.ref a]) (fun _ => rfl) ?_
    obtain ⟨⟨q19, S18⟩, hq19, h⟩ := obind h
    try dsimp only at h
    refine pE_new rfl rfl ?_
    obtain ⟨rfl, rfl⟩ : ps_hi S17 = q19 ∧ pm_al S17 6 (.inr (3, [.null, .null, .null, .int 0, .int 0, .int 0])) = S18 := by cases hq19; exact ⟨rfl, rfl⟩
    refine pE_jump 1 (pc' := 55) (ls' := [some (.ref a)]) (st' := [.ref (ps_hi S17), .ref (ps_hi S17), .ref a]) (fun _ => rfl) ?_
    obtain ⟨S20, hS20, h⟩ := obind h
    refine pE_iv (Bs := []) (st := [.ref (ps_hi S17), .ref a]) 2 rfl (Or.inr ⟨rfl, rfl⟩) rfl rfl (Nat.le_of_ble_eq_true rfl) (Nat.le_of_ble_eq_true rfl) (g_Mover_init hS20) (f_Mover_init sp (d + 4) N (pm_al S17 6 (.inr (3, [.null, .null, .null, .int 0, .int 0, .int 0]))) (ps_hi S17) _ hS20) ?_
    obtain ⟨S21, hS21, h⟩ := obind h
    refine pE_pf rfl rfl rfl hS21 ?_
    refine pE_jump 1 (pc' := 62) (ls' := [some (.ref a)]) (st' := [.ref a]) (fun _ => rfl) ?_
    obtain ⟨⟨q23, S22⟩, hq23, h⟩ := obind h
    try dsimp only at h
    refine pE_new rfl rfl ?_
    obtain ⟨rfl, rfl⟩ : ps_hi S21 = q23 ∧ pm_al S21 12 (.inr (4, [.int 0, .null, .null, .null, .null, .null, .null, .null, .null, .null, .null, .null])) = S22 := by cases hq23; exact ⟨rfl, rfl⟩
    refine pE_jump 1 (pc' := 66) (ls' := [some (.ref a)]) (st' := [.ref (ps_hi S21), .ref (ps_hi S21), .ref a]) (fun _ => rfl) ?_
    obtain ⟨S24, hS24, h⟩ := obind h
    refine pE_iv (Bs := []) (st := [.ref (ps_hi S21), .ref a]) 2 rfl (Or.inr ⟨rfl, rfl⟩) rfl rfl (Nat.le_of_ble_eq_true rfl) (Nat.le_of_ble_eq_true rfl) (g_Plan_init hS24) (f_Plan_init sp (d + 2) N (pm_al S21 12 (.inr (4, [.int 0, .null, .null, .null, .null, .null, .null, .null, .null, .null, .null, .null]))) (ps_hi S21) _ hS24) ?_
    obtain ⟨S25, hS25, h⟩ := obind h
    refine pE_pf rfl rfl rfl hS25 ?_
    refine pE_jump 2 (pc' := 74) (ls' := [some (.ref a)]) (st' := [.int 0, .ref a]) (fun _ => rfl) ?_
    obtain ⟨S26, hS26, h⟩ := obind h
    refine pE_pf rfl rfl rfl hS26 ?_
    cases h
    exact pE_ret rfl rfl rfl
def F_BP_bytesIn_28 (N : Nat)  (x1 : Int32) (S : pm_S) : Option (Int32 × pm_S) :=
    some (x1, S)
set_option maxHeartbeats 4000000 in
set_option maxRecDepth 20000 in
theorem f_BP_bytesIn_28 (sp : pm_I → List Value → pm_S → pm_O → Prop) (d N : Nat)  (x1 : Int32) (S : pm_S)  (r : (Int32 × pm_S)) (h : F_BP_bytesIn_28 N  x1 S = some r) : pmE pG (pm_rel pG sp (d + 0)) mi_BP_bytesIn 28 [none, some (.int x1), none] [] S (some (.int r.1), r.2) := by
  unfold F_BP_bytesIn_28 at h
  refine pE_jump 1 (pc' := 29) (ls' := [none, some (.int x1), none]) (st' := [.int x1]) (fun _ => rfl) ?_
  cases h
  exact pE_ret rfl rfl rfl
def F_BP_bytesIn_22 (N : Nat) (rec5 : Int32 → Int32 → pm_S → Option (Int32 × pm_S)) (x0 : Int32) (x1 : Int32) (x2 : Int32) (S : pm_S) : Option (Int32 × pm_S) :=
    rec5 x1 (x2 + (-8)) S
set_option maxHeartbeats 4000000 in
set_option maxRecDepth 20000 in
theorem f_BP_bytesIn_22 (sp : pm_I → List Value → pm_S → pm_O → Prop) (d N : Nat) (rec5 : Int32 → Int32 → pm_S → Option (Int32 × pm_S)) (x0 : Int32) (x1 : Int32) (x2 : Int32) (S : pm_S) (hrec5 : ∀ (y1 : Int32) (y2 : Int32) (U : pm_S) (r : (Int32 × pm_S)), rec5 y1 y2 U = some r → pmE pG (pm_rel pG sp (d + 0)) mi_BP_bytesIn 5 [some (.int x0), some (.int y1), some (.int y2)] [] U (some (.int r.1), r.2)) (r : (Int32 × pm_S)) (h : F_BP_bytesIn_22 N rec5 x0 x1 x2 S = some r) : pmE pG (pm_rel pG sp (d + 0)) mi_BP_bytesIn 22 [some (.int x0), some (.int x1), some (.int x2)] [] S (some (.int r.1), r.2) := by
  unfold F_BP_bytesIn_22 at h
  refine pE_iinc (y := -8) (ls' := [some (.int x0), some (.int x1), some (.int (x2 + (-8)))]) rfl rfl (Nat.le_of_ble_eq_true rfl) (by decide) rfl ?_
  refine pE_jump 1 (pc' := 5) (ls' := [some (.int x0), some (.int x1), some (.int (x2 + (-8)))]) (st' := []) (fun _ => rfl) ?_
  exact hrec5 x1 (x2 + (-8)) S _ h
def B_BP_bytesIn_5 (N : Nat)  (rec5 : Int32 → Int32 → pm_S → Option (Int32 × pm_S)) (x0 : Int32) (x1 : Int32) (x2 : Int32) (S : pm_S) : Option (Int32 × pm_S) :=
    if x2 < 0 then
    F_BP_bytesIn_28 N x1 S
    else
    (if (((x0.toUInt32 >>> (Int32.toUInt32 x2 &&& Int32.toUInt32 31)).toInt32) &&& 255) = 0 then
    F_BP_bytesIn_22 N rec5 x0 x1 x2 S
    else
    F_BP_bytesIn_22 N rec5 x0 (x1 + 1) x2 S)
def F_BP_bytesIn_5 (N : Nat)  (x0 : Int32) : Nat → Int32 → Int32 → pm_S → Option (Int32 × pm_S)
  | 0 => fun _ _ _ => none
  | n + 1 => fun x1 x2 S => B_BP_bytesIn_5 N  (F_BP_bytesIn_5 N  x0 n) x0 x1 x2 S
set_option maxHeartbeats 4000000 in
set_option maxRecDepth 20000 in
theorem f_BP_bytesIn_5 (sp : pm_I → List Value → pm_S → pm_O → Prop) (d N : Nat)  (x0 : Int32)  : ∀ (n : Nat) (x1 : Int32) (x2 : Int32) (S : pm_S) (r : (Int32 × pm_S)), F_BP_bytesIn_5 N  x0 n x1 x2 S = some r → pmE pG (pm_rel pG sp (d + 0)) mi_BP_bytesIn 5 [some (.int x0), some (.int x1), some (.int x2)] [] S (some (.int r.1), r.2) := by
  intro n
  induction n with
  | zero =>
    intro x1 x2 S r h
    cases h
  | succ n ih =>
    intro x1 x2 S r h
    replace h : B_BP_bytesIn_5 N  (F_BP_bytesIn_5 N  x0 n) x0 x1 x2 S = some r := h
    have hrec5 := ih
    generalize F_BP_bytesIn_5 N  x0 n = rec5 at h hrec5
    unfold B_BP_bytesIn_5 at h
    refine pE_jump 1 (pc' := 6) (ls' := [some (.int x0), some (.int x1), some (.int x2)]) (st' := [.int x2]) (fun _ => rfl) ?_
    refine pE_br (x2 < 0) rfl rfl (fun c2 => ?_) (fun c2 => ?_)
    · rw [if_pos c2] at h
      refine pE_weak [none, some (.int x1), none] ⟨rfl, trivial⟩ ?_
      exact f_BP_bytesIn_28 sp d N x1 S _ h
    · rw [if_neg c2] at h
      refine pE_jump 5 (pc' := 16) (ls' := [some (.int x0), some (.int x1), some (.int x2)]) (st' := [.int (((x0.toUInt32 >>> (Int32.toUInt32 x2 &&& Int32.toUInt32 31)).toInt32) &&& 255)]) (fun _ => rfl) ?_
      refine pE_br ((((x0.toUInt32 >>> (Int32.toUInt32 x2 &&& Int32.toUInt32 31)).toInt32) &&& 255) = 0) rfl rfl (fun c1 => ?_) (fun c1 => ?_)
      · rw [if_pos c1] at h
        exact f_BP_bytesIn_22 sp d N rec5 x0 x1 x2 S hrec5 _ h
      · rw [if_neg c1] at h
        refine pE_jump 1 (pc' := 22) (ls' := [some (.int x0), some (.int (x1 + 1)), some (.int x2)]) (st' := []) (fun _ => rfl) ?_
        exact f_BP_bytesIn_22 sp d N rec5 x0 (x1 + 1) x2 S hrec5 _ h
def F_BP_bytesIn (N : Nat) (S : pm_S) (p0 : Int32) : Option (Int32 × pm_S) :=
    F_BP_bytesIn_5 N p0 N 0 24 S
set_option maxHeartbeats 4000000 in
set_option maxRecDepth 20000 in
theorem f_BP_bytesIn (sp : pm_I → List Value → pm_S → pm_O → Prop) (d N : Nat) (S : pm_S) (p0 : Int32) (r : (Int32 × pm_S)) (h : F_BP_bytesIn N S p0 = some r) : pm_rel pG sp (d + 1) mi_BP_bytesIn [.int p0] S (some (.int r.1), r.2) := by
  unfold F_BP_bytesIn at h
  refine pE_rel (d := d + 0) ?_
  show pmE pG _ mi_BP_bytesIn 0 [some (.int p0), none, none] [] S _
  refine pE_jump 4 (pc' := 5) (ls' := [some (.int p0), some (.int 0), some (.int 24)]) (st' := []) (fun _ => rfl) ?_
  exact f_BP_bytesIn_5 sp d N p0 N 0 24 S _ h
