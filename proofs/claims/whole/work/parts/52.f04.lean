def F_Plan_lengthOf (N : Nat) (S : pm_S) (a : Nat) (p0 : Int32) : Option (Int32 × pm_S) :=
    if rcv S a 4 = true then
    ((oR S a 4 1).bind fun oq1 => match oq1 with
    | none => none
    | some q1 =>
    (F_Ledger_at N S q1 p0 3).bind fun (v3, S2) =>
    some (v3, S2))
    else none
theorem g_Plan_lengthOf {N : Nat} {S : pm_S} {a : Nat} {p0 : Int32} {r : (Int32 × pm_S)} (h : F_Plan_lengthOf N S a p0 = some r) : rcv S a 4 = true := by
  unfold F_Plan_lengthOf at h
  by_cases c : rcv S a 4 = true
  · exact c
  · rw [if_neg c] at h; cases h
set_option maxHeartbeats 4000000 in
set_option maxRecDepth 20000 in
theorem f_Plan_lengthOf (sp : pm_I → List Value → pm_S → pm_O → Prop) (d N : Nat) (S : pm_S) (a : Nat) (p0 : Int32) (r : (Int32 × pm_S)) (h : F_Plan_lengthOf N S a p0 = some r) : pm_rel pG sp (d + 2) mi_Plan_lengthOf [.ref a, .int p0] S (some (.int r.1), r.2) := by
  have hg := g_Plan_lengthOf h
  unfold F_Plan_lengthOf at h
  rw [if_pos hg] at h
  refine pE_rel (d := d + 1) ?_
  show pmE pG _ mi_Plan_lengthOf 0 [some (.ref a), some (.int p0)] [] S _
  refine pE_jump 1 (pc' := 1) (ls' := [some (.ref a), some (.int p0)]) (st' := [.ref a]) (fun _ => rfl) ?_
  obtain ⟨oq1, hq1, h⟩ := obind h
  cases oq1 with
  | none => cases h
  | some q1 =>
    try dsimp only at h
    refine pE_gfS rfl rfl hq1 ?_
    refine pE_jump 2 (pc' := 6) (ls' := [some (.ref a), some (.int p0)]) (st' := [.int 3, .int p0, .ref q1]) (fun _ => rfl) ?_
    obtain ⟨⟨v3, S2⟩, hv3, h⟩ := obind h
    try dsimp only at h
    refine pE_iv (Bs := [.int p0, .int 3]) (st := []) 1 rfl (Or.inl ⟨rfl, rfl⟩) rfl rfl (Nat.le_of_ble_eq_true rfl) (Nat.le_of_ble_eq_true rfl) (g_Ledger_at hv3) (f_Ledger_at sp d N S q1 p0 3 _ hv3) ?_
    cases h
    exact pE_ret rfl rfl rfl
def F_Plan_canHaveTrouble_117 (N : Nat)  (t0 : Int32) (S : pm_S) : Option (Int32 × pm_S) :=
    if t0 = 0 ∨ t0 = 1 then some (t0, S) else none
set_option maxHeartbeats 4000000 in
set_option maxRecDepth 20000 in
theorem f_Plan_canHaveTrouble_117 (sp : pm_I → List Value → pm_S → pm_O → Prop) (d N : Nat)  (t0 : Int32) (S : pm_S)  (r : (Int32 × pm_S)) (h : F_Plan_canHaveTrouble_117 N  t0 S = some r) : pmE pG (pm_rel pG sp (d + 3)) mi_Plan_canHaveTrouble 117 [none, none, none, none, none, none, none, none] [.int t0] S (some (.int r.1), r.2) := by
  unfold F_Plan_canHaveTrouble_117 at h
  by_cases c13 : t0 = 0 ∨ t0 = 1
  · rw [if_pos c13] at h
    cases h
    exact pE_ret rfl (if_pos c13) rfl
  · rw [if_neg c13] at h
    cases h
def F_Plan_canHaveTrouble_116 (N : Nat)   (S : pm_S) : Option (Int32 × pm_S) :=
    F_Plan_canHaveTrouble_117 N 0 S
set_option maxHeartbeats 4000000 in
set_option maxRecDepth 20000 in
theorem f_Plan_canHaveTrouble_116 (sp : pm_I → List Value → pm_S → pm_O → Prop) (d N : Nat)   (S : pm_S)  (r : (Int32 × pm_S)) (h : F_Plan_canHaveTrouble_116 N   S = some r) : pmE pG (pm_rel pG sp (d + 3)) mi_Plan_canHaveTrouble 116 [none, none, none, none, none, none, none, none] [] S (some (.int r.1), r.2) := by
  unfold F_Plan_canHaveTrouble_116 at h
  refine pE_jump 1 (pc' := 117) (ls' := [none, none, none, none, none, none, none, none]) (st' := [.int 0]) (fun _ => rfl) ?_
  exact f_Plan_canHaveTrouble_117 sp d N 0 S _ h
def F_Plan_canHaveTrouble_61 (N : Nat)  (x0 : Nat) (x1 : Int32) (x2 : Int32) (x6 : Int32) (t0 : Int32) (S : pm_S) : Option (Int32 × pm_S) :=
    if x1 = 0 then
    if x6 = 0 ∨ x6 = 1 then some (x6, S) else none
    else
    (if x1 = 1 then
    if t0 = 0 ∨ t0 = 1 then some (t0, S) else none
    else
    (if x1 = 2 then
    (if x6 = 0 then
    F_Plan_canHaveTrouble_116 N S
    else
    (if t0 = 0 then
    F_Plan_canHaveTrouble_116 N S
    else
    F_Plan_canHaveTrouble_117 N 1 S))
    else
    (if x1 = 3 then
    ((oR S x0 4 6).bind fun oq9 => match oq9 with
    | none => none
    | some q9 =>
    (F_Ledger_has N S q9 x2).bind fun (v11, S10) =>
    if v11 = 0 ∨ v11 = 1 then some (v11, S10) else none)
    else
    some (0, S))))
set_option maxHeartbeats 4000000 in
set_option maxRecDepth 20000 in
theorem f_Plan_canHaveTrouble_61 (sp : pm_I → List Value → pm_S → pm_O → Prop) (d N : Nat)  (x0 : Nat) (x1 : Int32) (x2 : Int32) (x6 : Int32) (t0 : Int32) (S : pm_S)  (r : (Int32 × pm_S)) (h : F_Plan_canHaveTrouble_61 N  x0 x1 x2 x6 t0 S = some r) : pmE pG (pm_rel pG sp (d + 3)) mi_Plan_canHaveTrouble 61 [some (.ref x0), some (.int x1), some (.int x2), none, none, none, some (.int x6), none] [.int t0] S (some (.int r.1), r.2) := by
  unfold F_Plan_canHaveTrouble_61 at h
  refine pE_jump 2 (pc' := 64) (ls' := [some (.ref x0), some (.int x1), some (.int x2), none, none, none, some (.int x6), some (.int t0)]) (st' := [.int x1]) (fun _ => rfl) ?_
  by_cases c5 : x1 = 0
  · rw [if_pos c5] at h
    refine pE_nx (pc' := 96) (ls' := [some (.ref x0), some (.int x1), some (.int x2), none, none, none, some (.int x6), some (.int t0)]) (st' := []) (S' := S) rfl (by rw [c5]; rfl) ?_
    refine pE_jump 1 (pc' := 98) (ls' := [some (.ref x0), some (.int x1), some (.int x2), none, none, none, some (.int x6), some (.int t0)]) (st' := [.int x6]) (fun _ => rfl) ?_
    by_cases c17 : x6 = 0 ∨ x6 = 1
    · rw [if_pos c17] at h
      cases h
      exact pE_ret rfl (if_pos c17) rfl
    · rw [if_neg c17] at h
      cases h
  · rw [if_neg c5] at h
    by_cases c6 : x1 = 1
    · rw [if_pos c6] at h
      refine pE_nx (pc' := 99) (ls' := [some (.ref x0), some (.int x1), some (.int x2), none, none, none, some (.int x6), some (.int t0)]) (st' := []) (S' := S) rfl (by rw [c6]; rfl) ?_
      refine pE_jump 1 (pc' := 101) (ls' := [some (.ref x0), some (.int x1), some (.int x2), none, none, none, some (.int x6), some (.int t0)]) (st' := [.int t0]) (fun _ => rfl) ?_
      by_cases c16 : t0 = 0 ∨ t0 = 1
      · rw [if_pos c16] at h
        cases h
        exact pE_ret rfl (if_pos c16) rfl
      · rw [if_neg c16] at h
        cases h
    · rw [if_neg c6] at h
      by_cases c7 : x1 = 2
      · rw [if_pos c7] at h
        refine pE_nx (pc' := 102) (ls' := [some (.ref x0), some (.int x1), some (.int x2), none, none, none, some (.int x6), some (.int t0)]) (st' := []) (S' := S) rfl (by rw [c7]; rfl) ?_
        refine pE_jump 1 (pc' := 104) (ls' := [some (.ref x0), some (.int x1), some (.int x2), none, none, none, some (.int x6), some (.int t0)]) (st' := [.int x6]) (fun _ => rfl) ?_
        refine pE_br (x6 = 0) rfl rfl (fun c15 => ?_) (fun c15 => ?_)
        · rw [if_pos c15] at h
          refine pE_weak [none, none, none, none, none, none, none, none] trivial ?_
          exact f_Plan_canHaveTrouble_116 sp d N S _ h
        · rw [if_neg c15] at h
          refine pE_jump 1 (pc' := 109) (ls' := [some (.ref x0), some (.int x1), some (.int x2), none, none, none, some (.int x6), some (.int t0)]) (st' := [.int t0]) (fun _ => rfl) ?_
          refine pE_br (t0 = 0) rfl rfl (fun c14 => ?_) (fun c14 => ?_)
          · rw [if_pos c14] at h
            refine pE_weak [none, none, none, none, none, none, none, none] trivial ?_
            exact f_Plan_canHaveTrouble_116 sp d N S _ h
          · rw [if_neg c14] at h
            refine pE_jump 2 (pc' := 117) (ls' := [some (.ref x0), some (.int x1), some (.int x2), none, none, none, some (.int x6), some (.int t0)]) (st' := [.int 1]) (fun _ => rfl) ?_
            refine pE_weak [none, none, none, none, none, none, none, none] trivial ?_
            exact f_Plan_canHaveTrouble_117 sp d N 1 S _ h
      · rw [if_neg c7] at h
        by_cases c8 : x1 = 3
        · rw [if_pos c8] at h
          refine pE_nx (pc' := 118) (ls' := [some (.ref x0), some (.int x1), some (.int x2), none, none, none, some (.int x6), some (.int t0)]) (st' := []) (S' := S) rfl (by rw [c8]; rfl) ?_
          refine pE_jump 1 (pc' := 119) (ls' := [some (.ref x0), some (.int x1), some (.int x2), none, none, none, some (.int x6), some (.int t0)]) (st' := [.ref x0]) (fun _ => rfl) ?_
          obtain ⟨oq9, hq9, h⟩ := obind h
          cases oq9 with
          | none => cases h
          | some q9 =>
            try dsimp only at h
            refine pE_gfS rfl rfl hq9 ?_
            refine pE_jump 1 (pc' := 123) (ls' := [some (.ref x0), some (.int x1), some (.int x2), none, none, none, some (.int x6), some (.int t0)]) (st' := [.int x2, .ref q9]) (fun _ => rfl) ?_
            obtain ⟨⟨v11, S10⟩, hv11, h⟩ := obind h
            try dsimp only at h
            refine pE_iv (Bs := [.int x2]) (st := []) 1 rfl (Or.inl ⟨rfl, rfl⟩) rfl rfl (Nat.le_of_ble_eq_true rfl) (Nat.le_of_ble_eq_true rfl) (g_Ledger_has hv11) (f_Ledger_has sp (d + 2) N S q9 x2 _ hv11) ?_
            by_cases c12 : v11 = 0 ∨ v11 = 1
            · rw [if_pos c12] at h
              cases h
              exact pE_ret rfl (if_pos c12) rfl
            · rw [if_neg c12] at h
              cases h
        · rw [if_neg c8] at h
          refine pE_swD (pc' := 127) rfl (pm_swd3 c5 c6 c7 c8) (by decide) rfl ?_
          refine pE_jump 1 (pc' := 128) (ls' := [some (.ref x0), some (.int x1), some (.int x2), none, none, none, some (.int x6), some (.int t0)]) (st' := [.int 0]) (fun _ => rfl) ?_
          cases h
          exact pE_ret rfl rfl rfl
def F_Plan_canHaveTrouble_60 (N : Nat)  (x0 : Nat) (x1 : Int32) (x2 : Int32) (x6 : Int32) (S : pm_S) : Option (Int32 × pm_S) :=
    F_Plan_canHaveTrouble_61 N x0 x1 x2 x6 0 S
set_option maxHeartbeats 4000000 in
set_option maxRecDepth 20000 in
theorem f_Plan_canHaveTrouble_60 (sp : pm_I → List Value → pm_S → pm_O → Prop) (d N : Nat)  (x0 : Nat) (x1 : Int32) (x2 : Int32) (x6 : Int32) (S : pm_S)  (r : (Int32 × pm_S)) (h : F_Plan_canHaveTrouble_60 N  x0 x1 x2 x6 S = some r) : pmE pG (pm_rel pG sp (d + 3)) mi_Plan_canHaveTrouble 60 [some (.ref x0), some (.int x1), some (.int x2), none, none, none, some (.int x6), none] [] S (some (.int r.1), r.2) := by
  unfold F_Plan_canHaveTrouble_60 at h
  refine pE_jump 1 (pc' := 61) (ls' := [some (.ref x0), some (.int x1), some (.int x2), none, none, none, some (.int x6), none]) (st' := [.int 0]) (fun _ => rfl) ?_
  exact f_Plan_canHaveTrouble_61 sp d N x0 x1 x2 x6 0 S _ h
def F_Plan_canHaveTrouble_30 (N : Nat)  (x0 : Nat) (x1 : Int32) (x2 : Int32) (x3 : Int32) (x5 : Int32) (t0 : Int32) (S : pm_S) : Option (Int32 × pm_S) :=
    (F_Plan_hasPair N S x0 x2 x3).bind fun (v4, S3) =>
    if v4 = 0 then
    F_Plan_canHaveTrouble_60 N x0 x1 x2 t0 S3
    else
    (if x5 < 0 then
    F_Plan_canHaveTrouble_60 N x0 x1 x2 t0 S3
    else
    ((F_Plan_lengthOf N S3 x0 x2).bind fun (v19, S18) =>
    if v19 < x5 then
    F_Plan_canHaveTrouble_60 N x0 x1 x2 t0 S18
    else
    F_Plan_canHaveTrouble_61 N x0 x1 x2 t0 1 S18))
set_option maxHeartbeats 4000000 in
set_option maxRecDepth 20000 in
theorem f_Plan_canHaveTrouble_30 (sp : pm_I → List Value → pm_S → pm_O → Prop) (d N : Nat)  (x0 : Nat) (x1 : Int32) (x2 : Int32) (x3 : Int32) (x5 : Int32) (t0 : Int32) (S : pm_S)  (r : (Int32 × pm_S)) (h : F_Plan_canHaveTrouble_30 N  x0 x1 x2 x3 x5 t0 S = some r) : pmE pG (pm_rel pG sp (d + 3)) mi_Plan_canHaveTrouble 30 [some (.ref x0), some (.int x1), some (.int x2), some (.int x3), none, some (.int x5), none, none] [.int t0] S (some (.int r.1), r.2) := by
  unfold F_Plan_canHaveTrouble_30 at h
  refine pE_jump 4 (pc' := 35) (ls' := [some (.ref x0), some (.int x1), some (.int x2), some (.int x3), none, some (.int x5), some (.int t0), none]) (st' := [.int x3, .int x2, .ref x0]) (fun _ => rfl) ?_
  obtain ⟨⟨v4, S3⟩, hv4, h⟩ := obind h
  try dsimp only at h
  refine pE_iv (Bs := [.int x2, .int x3]) (st := []) 1 rfl (Or.inl ⟨rfl, rfl⟩) rfl rfl (Nat.le_of_ble_eq_true rfl) (Nat.le_of_ble_eq_true rfl) (g_Plan_hasPair hv4) (f_Plan_hasPair sp d N S x0 x2 x3 _ hv4) ?_
  refine pE_br (v4 = 0) rfl rfl (fun c22 => ?_) (fun c22 => ?_)
  · rw [if_pos c22] at h
    refine pE_weak [some (.ref x0), some (.int x1), some (.int x2), none, none, none, some (.int t0), none] ⟨rfl, ⟨rfl, ⟨rfl, ⟨rfl, trivial⟩⟩⟩⟩ ?_
    exact f_Plan_canHaveTrouble_60 sp d N x0 x1 x2 t0 S3 _ h
  · rw [if_neg c22] at h
    refine pE_jump 1 (pc' := 43) (ls' := [some (.ref x0), some (.int x1), some (.int x2), some (.int x3), none, some (.int x5), some (.int t0), none]) (st' := [.int x5]) (fun _ => rfl) ?_
    refine pE_br (x5 < 0) rfl rfl (fun c21 => ?_) (fun c21 => ?_)
    · rw [if_pos c21] at h
      refine pE_weak [some (.ref x0), some (.int x1), some (.int x2), none, none, none, some (.int t0), none] ⟨rfl, ⟨rfl, ⟨rfl, ⟨rfl, trivial⟩⟩⟩⟩ ?_
      exact f_Plan_canHaveTrouble_60 sp d N x0 x1 x2 t0 S3 _ h
    · rw [if_neg c21] at h
      refine pE_jump 3 (pc' := 50) (ls' := [some (.ref x0), some (.int x1), some (.int x2), some (.int x3), none, some (.int x5), some (.int t0), none]) (st' := [.int x2, .ref x0, .int x5]) (fun _ => rfl) ?_
      obtain ⟨⟨v19, S18⟩, hv19, h⟩ := obind h
      try dsimp only at h
      refine pE_iv (Bs := [.int x2]) (st := [.int x5]) 1 rfl (Or.inl ⟨rfl, rfl⟩) rfl rfl (Nat.le_of_ble_eq_true rfl) (Nat.le_of_ble_eq_true rfl) (g_Plan_lengthOf hv19) (f_Plan_lengthOf sp (d + 1) N S3 x0 x2 _ hv19) ?_
      refine pE_br (v19 < x5) rfl rfl (fun c20 => ?_) (fun c20 => ?_)
      · rw [if_pos c20] at h
        refine pE_weak [some (.ref x0), some (.int x1), some (.int x2), none, none, none, some (.int t0), none] ⟨rfl, ⟨rfl, ⟨rfl, ⟨rfl, trivial⟩⟩⟩⟩ ?_
        exact f_Plan_canHaveTrouble_60 sp d N x0 x1 x2 t0 S18 _ h
      · rw [if_neg c20] at h
        refine pE_jump 2 (pc' := 61) (ls' := [some (.ref x0), some (.int x1), some (.int x2), some (.int x3), none, some (.int x5), some (.int t0), none]) (st' := [.int 1]) (fun _ => rfl) ?_
        refine pE_weak [some (.ref x0), some (.int x1), some (.int x2), none, none, none, some (.int t0), none] ⟨rfl, ⟨rfl, ⟨rfl, ⟨rfl, trivial⟩⟩⟩⟩ ?_
        exact f_Plan_canHaveTrouble_61 sp d N x0 x1 x2 t0 1 S18 _ h
def F_Plan_canHaveTrouble_29 (N : Nat)  (x0 : Nat) (x1 : Int32) (x2 : Int32) (x3 : Int32) (x5 : Int32) (S : pm_S) : Option (Int32 × pm_S) :=
    F_Plan_canHaveTrouble_30 N x0 x1 x2 x3 x5 0 S
set_option maxHeartbeats 4000000 in
set_option maxRecDepth 20000 in
theorem f_Plan_canHaveTrouble_29 (sp : pm_I → List Value → pm_S → pm_O → Prop) (d N : Nat)  (x0 : Nat) (x1 : Int32) (x2 : Int32) (x3 : Int32) (x5 : Int32) (S : pm_S)  (r : (Int32 × pm_S)) (h : F_Plan_canHaveTrouble_29 N  x0 x1 x2 x3 x5 S = some r) : pmE pG (pm_rel pG sp (d + 3)) mi_Plan_canHaveTrouble 29 [some (.ref x0), some (.int x1), some (.int x2), some (.int x3), none, some (.int x5), none, none] [] S (some (.int r.1), r.2) := by
  unfold F_Plan_canHaveTrouble_29 at h
  refine pE_jump 1 (pc' := 30) (ls' := [some (.ref x0), some (.int x1), some (.int x2), some (.int x3), none, some (.int x5), none, none]) (st' := [.int 0]) (fun _ => rfl) ?_
  exact f_Plan_canHaveTrouble_30 sp d N x0 x1 x2 x3 x5 0 S _ h
def F_Plan_canHaveTrouble (N : Nat) (S : pm_S) (a : Nat) (p0 : Int32) (p1 : Int32) (p2 : Int32) (p3 : Int32) (p4 : Int32) : Option (Int32 × pm_S) :=
    if rcv S a 4 = true then
    ((F_Plan_hasPair N S a p1 p2).bind fun (v2, S1) =>
    if v2 = 0 then
    F_Plan_canHaveTrouble_29 N a p0 p1 p2 p4 S1
    else
    ((F_Plan_hasPair N S1 a p1 p3).bind fun (v24, S23) =>
    if v24 = 0 then
    F_Plan_canHaveTrouble_29 N a p0 p1 p2 p4 S23
    else
    (if p2 = p3 then
    F_Plan_canHaveTrouble_29 N a p0 p1 p2 p4 S23
    else
    F_Plan_canHaveTrouble_30 N a p0 p1 p2 p4 1 S23)))
    else none
theorem g_Plan_canHaveTrouble {N : Nat} {S : pm_S} {a : Nat} {p0 : Int32} {p1 : Int32} {p2 : Int32} {p3 : Int32} {p4 : Int32} {r : (Int32 × pm_S)} (h : F_Plan_canHaveTrouble N S a p0 p1 p2 p3 p4 = some r) : rcv S a 4 = true := by
  unfold F_Plan_canHaveTrouble at h
  by_cases c : rcv S a 4 = true
  · exact c
  · rw [if_neg c] at h; cases h
set_option maxHeartbeats 4000000 in
set_option maxRecDepth 20000 in
theorem f_Plan_canHaveTrouble (sp : pm_I → List Value → pm_S → pm_O → Prop) (d N : Nat) (S : pm_S) (a : Nat) (p0 : Int32) (p1 : Int32) (p2 : Int32) (p3 : Int32) (p4 : Int32) (r : (Int32 × pm_S)) (h : F_Plan_canHaveTrouble N S a p0 p1 p2 p3 p4 = some r) : pm_rel pG sp (d + 4) mi_Plan_canHaveTrouble [.ref a, .int p0, .int p1, .int p2, .int p3, .int p4] S (some (.int r.1), r.2) := by
  have hg := g_Plan_canHaveTrouble h
  unfold F_Plan_canHaveTrouble at h
  rw [if_pos hg] at h
  refine pE_rel (d := d + 3) ?_
  show pmE pG _ mi_Plan_canHaveTrouble 0 [some (.ref a), some (.int p0), some (.int p1), some (.int p2), some (.int p3), some (.int p4), none, none] [] S _
  refine pE_jump 3 (pc' := 3) (ls' := [some (.ref a), some (.int p0), some (.int p1), some (.int p2), some (.int p3), some (.int p4), none, none]) (st' := [.int p2, .int p1, .ref a]) (fun _ => rfl) ?_
  obtain ⟨⟨v2, S1⟩, hv2, h⟩ := obind h
  try dsimp only at h
  refine pE_iv (Bs := [.int p1, .int p2]) (st := []) 1 rfl (Or.inl ⟨rfl, rfl⟩) rfl rfl (Nat.le_of_ble_eq_true rfl) (Nat.le_of_ble_eq_true rfl) (g_Plan_hasPair hv2) (f_Plan_hasPair sp d N S a p1 p2 _ hv2) ?_
  refine pE_br (v2 = 0) rfl rfl (fun c27 => ?_) (fun c27 => ?_)
  · rw [if_pos c27] at h
    refine pE_weak [some (.ref a), some (.int p0), some (.int p1), some (.int p2), none, some (.int p4), none, none] ⟨rfl, ⟨rfl, ⟨rfl, ⟨rfl, ⟨rfl, trivial⟩⟩⟩⟩⟩ ?_
    exact f_Plan_canHaveTrouble_29 sp d N a p0 p1 p2 p4 S1 _ h
  · rw [if_neg c27] at h
    refine pE_jump 3 (pc' := 13) (ls' := [some (.ref a), some (.int p0), some (.int p1), some (.int p2), some (.int p3), some (.int p4), none, none]) (st' := [.int p3, .int p1, .ref a]) (fun _ => rfl) ?_
    obtain ⟨⟨v24, S23⟩, hv24, h⟩ := obind h
    try dsimp only at h
    refine pE_iv (Bs := [.int p1, .int p3]) (st := []) 1 rfl (Or.inl ⟨rfl, rfl⟩) rfl rfl (Nat.le_of_ble_eq_true rfl) (Nat.le_of_ble_eq_true rfl) (g_Plan_hasPair hv24) (f_Plan_hasPair sp d N S1 a p1 p3 _ hv24) ?_
    refine pE_br (v24 = 0) rfl rfl (fun c26 => ?_) (fun c26 => ?_)
    · rw [if_pos c26] at h
      refine pE_weak [some (.ref a), some (.int p0), some (.int p1), some (.int p2), none, some (.int p4), none, none] ⟨rfl, ⟨rfl, ⟨rfl, ⟨rfl, ⟨rfl, trivial⟩⟩⟩⟩⟩ ?_
      exact f_Plan_canHaveTrouble_29 sp d N a p0 p1 p2 p4 S23 _ h
    · rw [if_neg c26] at h
      refine pE_jump 2 (pc' := 22) (ls' := [some (.ref a), some (.int p0), some (.int p1), some (.int p2), some (.int p3), some (.int p4), none, none]) (st' := [.int p3, .int p2]) (fun _ => rfl) ?_
      refine pE_br (p2 = p3) rfl rfl (fun c25 => ?_) (fun c25 => ?_)
      · rw [if_pos c25] at h
        refine pE_weak [some (.ref a), some (.int p0), some (.int p1), some (.int p2), none, some (.int p4), none, none] ⟨rfl, ⟨rfl, ⟨rfl, ⟨rfl, ⟨rfl, trivial⟩⟩⟩⟩⟩ ?_
        exact f_Plan_canHaveTrouble_29 sp d N a p0 p1 p2 p4 S23 _ h
      · rw [if_neg c25] at h
        refine pE_jump 2 (pc' := 30) (ls' := [some (.ref a), some (.int p0), some (.int p1), some (.int p2), some (.int p3), some (.int p4), none, none]) (st' := [.int 1]) (fun _ => rfl) ?_
        refine pE_weak [some (.ref a), some (.int p0), some (.int p1), some (.int p2), none, some (.int p4), none, none] ⟨rfl, ⟨rfl, ⟨rfl, ⟨rfl, ⟨rfl, trivial⟩⟩⟩⟩⟩ ?_
        exact f_Plan_canHaveTrouble_30 sp d N a p0 p1 p2 p4 1 S23 _ h
def F_Plan_addTrouble_29 (N : Nat)  (x6 : Int32) (S : pm_S) : Option (Int32 × pm_S) :=
    some (x6, S)
set_option maxHeartbeats 4000000 in
set_option maxRecDepth 20000 in
theorem f_Plan_addTrouble_29 (sp : pm_I → List Value → pm_S → pm_O → Prop) (d N : Nat)  (x6 : Int32) (S : pm_S)  (r : (Int32 × pm_S)) (h : F_Plan_addTrouble_29 N  x6 S = some r) : pmE pG (pm_rel pG sp (d + 2)) mi_Plan_addTrouble 29 [none, none, none, none, none, none, some (.int x6)] [] S (some (.int r.1), r.2) := by
  unfold F_Plan_addTrouble_29 at h
  refine pE_jump 1 (pc' := 31) (ls' := [none, none, none, none, none, none, some (.int x6)]) (st' := [.int x6]) (fun _ => rfl) ?_
  cases h
  exact pE_ret rfl rfl rfl
def F_Plan_addTrouble (N : Nat) (S : pm_S) (a : Nat) (p0 : Int32) (p1 : Int32) (p2 : Int32) (p3 : Int32) (p4 : Int32) : Option (Int32 × pm_S) :=
    if rcv S a 4 = true then
    ((oR S a 4 7).bind fun oq1 => match oq1 with
    | none => none
    | some q1 =>
    (F_Ledger_add N S q1 p0 p1 p2 p3 p4).bind fun (v3, S2) =>
    if v3 = (-1) then
    F_Plan_addTrouble_29 N v3 S2
    else
    ((oR S2 a 4 11).bind fun oq4 => match oq4 with
    | none => none
    | some q4 =>
    (F_Sheet_forgetAll N S2 q4).bind fun S5 =>
    F_Plan_addTrouble_29 N v3 S5))
    else none
theorem g_Plan_addTrouble {N : Nat} {S : pm_S} {a : Nat} {p0 : Int32} {p1 : Int32} {p2 : Int32} {p3 : Int32} {p4 : Int32} {r : (Int32 × pm_S)} (h : F_Plan_addTrouble N S a p0 p1 p2 p3 p4 = some r) : rcv S a 4 = true := by
  unfold F_Plan_addTrouble at h
  by_cases c : rcv S a 4 = true
  · exact c
  · rw [if_neg c] at h; cases h
set_option maxHeartbeats 4000000 in
set_option maxRecDepth 20000 in
theorem f_Plan_addTrouble (sp : pm_I → List Value → pm_S → pm_O → Prop) (d N : Nat) (S : pm_S) (a : Nat) (p0 : Int32) (p1 : Int32) (p2 : Int32) (p3 : Int32) (p4 : Int32) (r : (Int32 × pm_S)) (h : F_Plan_addTrouble N S a p0 p1 p2 p3 p4 = some r) : pm_rel pG sp (d + 3) mi_Plan_addTrouble [.ref a, .int p0, .int p1, .int p2, .int p3, .int p4] S (some (.int r.1), r.2) := by
  have hg := g_Plan_addTrouble h
  unfold F_Plan_addTrouble at h
  rw [if_pos hg] at h
  refine pE_rel (d := d + 2) ?_
  show pmE pG _ mi_Plan_addTrouble 0 [some (.ref a), some (.int p0), some (.int p1), some (.int p2), some (.int p3), some (.int p4), none] [] S _
  refine pE_jump 1 (pc' := 1) (ls' := [some (.ref a), some (.int p0), some (.int p1), some (.int p2), some (.int p3), some (.int p4), none]) (st' := [.ref a]) (fun _ => rfl) ?_
  obtain ⟨oq1, hq1, h⟩ := obind h
  cases oq1 with
  | none => cases h
  | some q1 =>
    try dsimp only at h
    refine pE_gfS rfl rfl hq1 ?_
    refine pE_jump 5 (pc' := 11) (ls' := [some (.ref a), some (.int p0), some (.int p1), some (.int p2), some (.int p3), some (.int p4), none]) (st' := [.int p4, .int p3, .int p2, .int p1, .int p0, .ref q1]) (fun _ => rfl) ?_
    obtain ⟨⟨v3, S2⟩, hv3, h⟩ := obind h
    try dsimp only at h
    refine pE_iv (Bs := [.int p0, .int p1, .int p2, .int p3, .int p4]) (st := []) 1 rfl (Or.inl ⟨rfl, rfl⟩) rfl rfl (Nat.le_of_ble_eq_true rfl) (Nat.le_of_ble_eq_true rfl) (g_Ledger_add hv3) (f_Ledger_add sp d N S q1 p0 p1 p2 p3 p4 _ hv3) ?_
    refine pE_jump 3 (pc' := 19) (ls' := [some (.ref a), some (.int p0), some (.int p1), some (.int p2), some (.int p3), some (.int p4), some (.int v3)]) (st' := [.int (-1), .int v3]) (fun _ => rfl) ?_
    refine pE_br (v3 = (-1)) rfl rfl (fun c6 => ?_) (fun c6 => ?_)
    · rw [if_pos c6] at h
      refine pE_weak [none, none, none, none, none, none, some (.int v3)] ⟨rfl, trivial⟩ ?_
      exact f_Plan_addTrouble_29 sp d N v3 S2 _ h
    · rw [if_neg c6] at h
      refine pE_jump 1 (pc' := 23) (ls' := [some (.ref a), some (.int p0), some (.int p1), some (.int p2), some (.int p3), some (.int p4), some (.int v3)]) (st' := [.ref a]) (fun _ => rfl) ?_
      obtain ⟨oq4, hq4, h⟩ := obind h
      cases oq4 with
      | none => cases h
      | some q4 =>
        try dsimp only at h
        refine pE_gfS rfl rfl hq4 ?_
        obtain ⟨S5, hS5, h⟩ := obind h
        refine pE_iv (Bs := []) (st := []) 1 rfl (Or.inl ⟨rfl, rfl⟩) rfl rfl (Nat.le_of_ble_eq_true rfl) (Nat.le_of_ble_eq_true rfl) (g_Sheet_forgetAll hS5) (f_Sheet_forgetAll sp (d + 1) N S2 q4 _ hS5) ?_
        refine pE_weak [none, none, none, none, none, none, some (.int v3)] ⟨rfl, trivial⟩ ?_
        exact f_Plan_addTrouble_29 sp d N v3 S5 _ h
def F_BP_trouble_28 (N : Nat)   (S : pm_S) : Option (Int32 × pm_S) :=
    some ((-1), S)
set_option maxHeartbeats 4000000 in
set_option maxRecDepth 20000 in
theorem f_BP_trouble_28 (sp : pm_I → List Value → pm_S → pm_O → Prop) (d N : Nat)   (S : pm_S)  (r : (Int32 × pm_S)) (h : F_BP_trouble_28 N   S = some r) : pmE pG (pm_rel pG sp (d + 4)) mi_BP_trouble 28 [none, none, none, none, none, none, none, none] [] S (some (.int r.1), r.2) := by
  unfold F_BP_trouble_28 at h
  refine pE_jump 1 (pc' := 29) (ls' := [none, none, none, none, none, none, none, none]) (st' := [.int (-1)]) (fun _ => rfl) ?_
  cases h
  exact pE_ret rfl rfl rfl
def F_BP_trouble (N : Nat) (S : pm_S) (a : Nat) (p0 : Int32) (p1 : Int32) (p2 : Int32) (p3 : Int32) (p4 : Int32) (p5 : Int32) : Option (Int32 × pm_S) :=
    if rcv S a 10 = true then
    ((F_BP_planAt N S a p0).bind fun (oq2, S1) => match oq2 with
    | none => F_BP_trouble_28 N S1
    | some q2 =>
    (F_Plan_canHaveTrouble N S1 q2 p1 p2 p3 p4 p5).bind fun (v4, S3) =>
    if v4 = 0 then
    F_BP_trouble_28 N S3
    else
    ((F_Plan_addTrouble N S3 q2 p1 p2 p3 p4 p5).bind fun (v6, S5) =>
    some (v6, S5)))
    else none
theorem g_BP_trouble {N : Nat} {S : pm_S} {a : Nat} {p0 : Int32} {p1 : Int32} {p2 : Int32} {p3 : Int32} {p4 : Int32} {p5 : Int32} {r : (Int32 × pm_S)} (h : F_BP_trouble N S a p0 p1 p2 p3 p4 p5 = some r) : rcv S a 10 = true := by
  unfold F_BP_trouble at h
  by_cases c : rcv S a 10 = true
  · exact c
  · rw [if_neg c] at h; cases h
set_option maxHeartbeats 4000000 in
set_option maxRecDepth 20000 in
theorem f_BP_trouble (sp : pm_I → List Value → pm_S → pm_O → Prop) (d N : Nat) (S : pm_S) (a : Nat) (p0 : Int32) (p1 : Int32) (p2 : Int32) (p3 : Int32) (p4 : Int32) (p5 : Int32) (r : (Int32 × pm_S)) (h : F_BP_trouble N S a p0 p1 p2 p3 p4 p5 = some r) : pm_rel pG sp (d + 5) mi_BP_trouble [.ref a, .int p0, .int p1, .int p2, .int p3, .int p4, .int p5] S (some (.int r.1), r.2) := by
  have hg := g_BP_trouble h
  unfold F_BP_trouble at h
  rw [if_pos hg] at h
  refine pE_rel (d := d + 4) ?_
  show pmE pG _ mi_BP_trouble 0 [some (.ref a), some (.int p0), some (.int p1), some (.int p2), some (.int p3), some (.int p4), some (.int p5), none] [] S _
  refine pE_jump 2 (pc' := 2) (ls' := [some (.ref a), some (.int p0), some (.int p1), some (.int p2), some (.int p3), some (.int p4), some (.int p5), none]) (st' := [.int p0, .ref a]) (fun _ => rfl) ?_
  obtain ⟨⟨oq2, S1⟩, hq2, h⟩ := obind h
  try dsimp only at h
  cases oq2 with
  | none =>
    try dsimp only at h
    refine pE_iv (Bs := [.int p0]) (st := []) 1 rfl (Or.inl ⟨rfl, rfl⟩) rfl rfl (Nat.le_of_ble_eq_true rfl) (Nat.le_of_ble_eq_true rfl) (g_BP_planAt hq2) (f_BP_planAt sp (d + 3) N S a p0 _ hq2) ?_
    refine pE_jump 3 (pc' := 28) (ls' := [some (.ref a), some (.int p0), some (.int p1), some (.int p2), some (.int p3), some (.int p4), some (.int p5), some (.null)]) (st' := []) (fun _ => rfl) ?_
    refine pE_weak [none, none, none, none, none, none, none, none] trivial ?_
    exact f_BP_trouble_28 sp d N S1 _ h
  | some q2 =>
    try dsimp only at h
    refine pE_iv (Bs := [.int p0]) (st := []) 1 rfl (Or.inl ⟨rfl, rfl⟩) rfl rfl (Nat.le_of_ble_eq_true rfl) (Nat.le_of_ble_eq_true rfl) (g_BP_planAt hq2) (f_BP_planAt sp (d + 3) N S a p0 _ hq2) ?_
    refine pE_jump 9 (pc' := 22) (ls' := [some (.ref a), some (.int p0), some (.int p1), some (.int p2), some (.int p3), some (.int p4), some (.int p5), some (.ref q2)]) (st' := [.int p5, .int p4, .int p3, .int p2, .int p1, .ref q2]) (fun _ => rfl) ?_
    obtain ⟨⟨v4, S3⟩, hv4, h⟩ := obind h
    try dsimp only at h
    refine pE_iv (Bs := [.int p1, .int p2, .int p3, .int p4, .int p5]) (st := []) 1 rfl (Or.inl ⟨rfl, rfl⟩) rfl rfl (Nat.le_of_ble_eq_true rfl) (Nat.le_of_ble_eq_true rfl) (g_Plan_canHaveTrouble hv4) (f_Plan_canHaveTrouble sp d N S1 q2 p1 p2 p3 p4 p5 _ hv4) ?_
    refine pE_br (¬ v4 = 0) rfl rfl (fun c7 => ?_) (fun c7 => ?_)
    · rw [if_neg c7] at h
      refine pE_jump 6 (pc' := 40) (ls' := [some (.ref a), some (.int p0), some (.int p1), some (.int p2), some (.int p3), some (.int p4), some (.int p5), some (.ref q2)]) (st' := [.int p5, .int p4, .int p3, .int p2, .int p1, .ref q2]) (fun _ => rfl) ?_
      obtain ⟨⟨v6, S5⟩, hv6, h⟩ := obind h
      try dsimp only at h
      refine pE_iv (Bs := [.int p1, .int p2, .int p3, .int p4, .int p5]) (st := []) 1 rfl (Or.inl ⟨rfl, rfl⟩) rfl rfl (Nat.le_of_ble_eq_true rfl) (Nat.le_of_ble_eq_true rfl) (g_Plan_addTrouble hv6) (f_Plan_addTrouble sp (d + 1) N S3 q2 p1 p2 p3 p4 p5 _ hv6) ?_
      cases h
      exact pE_ret rfl rfl rfl
    · have c7 := Decidable.not_not.mp c7
      rw [if_pos c7] at h
      refine pE_weak [none, none, none, none, none, none, none, none] trivial ?_
      exact f_BP_trouble_28 sp d N S3 _ h
def F_BP_troubles_21 (N : Nat)  (t0 : Int32) (S : pm_S) : Option (Int32 × pm_S) :=
    some (t0, S)
set_option maxHeartbeats 4000000 in
set_option maxRecDepth 20000 in
theorem f_BP_troubles_21 (sp : pm_I → List Value → pm_S → pm_O → Prop) (d N : Nat)  (t0 : Int32) (S : pm_S)  (r : (Int32 × pm_S)) (h : F_BP_troubles_21 N  t0 S = some r) : pmE pG (pm_rel pG sp (d + 1)) mi_BP_troubles 21 [none, none, none] [.int t0] S (some (.int r.1), r.2) := by
  unfold F_BP_troubles_21 at h
  cases h
  exact pE_ret rfl rfl rfl
def F_BP_troubles (N : Nat) (S : pm_S) (a : Nat) (p0 : Int32) : Option (Int32 × pm_S) :=
    if rcv S a 10 = true then
    ((F_BP_planAt N S a p0).bind fun (oq2, S1) => match oq2 with
    | none => F_BP_troubles_21 N (-1) S1
    | some q2 =>
    (oR S1 q2 4 7).bind fun oq3 => match oq3 with
    | none => none
    | some q3 =>
    (F_Ledger_size N S1 q3).bind fun (v5, S4) =>
    F_BP_troubles_21 N v5 S4)
    else none
theorem g_BP_troubles {N : Nat} {S : pm_S} {a : Nat} {p0 : Int32} {r : (Int32 × pm_S)} (h : F_BP_troubles N S a p0 = some r) : rcv S a 10 = true := by
  unfold F_BP_troubles at h
  by_cases c : rcv S a 10 = true
  · exact c
  · rw [if_neg c] at h; cases h
set_option maxHeartbeats 4000000 in
set_option maxRecDepth 20000 in
theorem f_BP_troubles (sp : pm_I → List Value → pm_S → pm_O → Prop) (d N : Nat) (S : pm_S) (a : Nat) (p0 : Int32) (r : (Int32 × pm_S)) (h : F_BP_troubles N S a p0 = some r) : pm_rel pG sp (d + 2) mi_BP_troubles [.ref a, .int p0] S (some (.int r.1), r.2) := by
  have hg := g_BP_troubles h
  unfold F_BP_troubles at h
  rw [if_pos hg] at h
  refine pE_rel (d := d + 1) ?_
  show pmE pG _ mi_BP_troubles 0 [some (.ref a), some (.int p0), none] [] S _
  refine pE_jump 2 (pc' := 2) (ls' := [some (.ref a), some (.int p0), none]) (st' := [.int p0, .ref a]) (fun _ => rfl) ?_
  obtain ⟨⟨oq2, S1⟩, hq2, h⟩ := obind h
  try dsimp only at h
  cases oq2 with
  | none =>
    try dsimp only at h
    refine pE_iv (Bs := [.int p0]) (st := []) 1 rfl (Or.inl ⟨rfl, rfl⟩) rfl rfl (Nat.le_of_ble_eq_true rfl) (Nat.le_of_ble_eq_true rfl) (g_BP_planAt hq2) (f_BP_planAt sp d N S a p0 _ hq2) ?_
    refine pE_jump 5 (pc' := 21) (ls' := [some (.ref a), some (.int p0), some (.null)]) (st' := [.int (-1)]) (fun _ => rfl) ?_
    refine pE_weak [none, none, none] trivial ?_
    exact f_BP_troubles_21 sp d N (-1) S1 _ h
  | some q2 =>
    try dsimp only at h
    refine pE_iv (Bs := [.int p0]) (st := []) 1 rfl (Or.inl ⟨rfl, rfl⟩) rfl rfl (Nat.le_of_ble_eq_true rfl) (Nat.le_of_ble_eq_true rfl) (g_BP_planAt hq2) (f_BP_planAt sp d N S a p0 _ hq2) ?_
    refine pE_jump 4 (pc' := 15) (ls' := [some (.ref a), some (.int p0), some (.ref q2)]) (st' := [.ref q2]) (fun _ => rfl) ?_
    obtain ⟨oq3, hq3, h⟩ := obind h
    cases oq3 with
    | none => cases h
    | some q3 =>
      try dsimp only at h
      refine pE_gfS rfl rfl hq3 ?_
      obtain ⟨⟨v5, S4⟩, hv5, h⟩ := obind h
      try dsimp only at h
      refine pE_iv (Bs := []) (st := []) 1 rfl (Or.inl ⟨rfl, rfl⟩) rfl rfl (Nat.le_of_ble_eq_true rfl) (Nat.le_of_ble_eq_true rfl) (g_Ledger_size hv5) (f_Ledger_size sp d N S1 q3 _ hv5) ?_
      refine pE_weak [none, none, none] trivial ?_
      exact f_BP_troubles_21 sp d N v5 S4 _ h
def F_Plan_worlds (N : Nat) (S : pm_S) (a : Nat) : Option (Int32 × pm_S) :=
    if rcv S a 4 = true then
    ((oR S a 4 7).bind fun oq1 => match oq1 with
    | none => none
    | some q1 =>
    (F_Ledger_size N S q1).bind fun (v3, S2) =>
    some (1 <<< (v3 &&& 31), S2))
    else none
theorem g_Plan_worlds {N : Nat} {S : pm_S} {a : Nat} {r : (Int32 × pm_S)} (h : F_Plan_worlds N S a = some r) : rcv S a 4 = true := by
  unfold F_Plan_worlds at h
  by_cases c : rcv S a 4 = true
  · exact c
  · rw [if_neg c] at h; cases h
set_option maxHeartbeats 4000000 in
set_option maxRecDepth 20000 in
theorem f_Plan_worlds (sp : pm_I → List Value → pm_S → pm_O → Prop) (d N : Nat) (S : pm_S) (a : Nat) (r : (Int32 × pm_S)) (h : F_Plan_worlds N S a = some r) : pm_rel pG sp (d + 2) mi_Plan_worlds [.ref a] S (some (.int r.1), r.2) := by
  have hg := g_Plan_worlds h
  unfold F_Plan_worlds at h
  rw [if_pos hg] at h
  refine pE_rel (d := d + 1) ?_
  show pmE pG _ mi_Plan_worlds 0 [some (.ref a)] [] S _
  refine pE_jump 2 (pc' := 2) (ls' := [some (.ref a)]) (st' := [.ref a, .int 1]) (fun _ => rfl) ?_
  obtain ⟨oq1, hq1, h⟩ := obind h
  cases oq1 with
  | none => cases h
  | some q1 =>
    try dsimp only at h
    refine pE_gfS rfl rfl hq1 ?_
    obtain ⟨⟨v3, S2⟩, hv3, h⟩ := obind h
    try dsimp only at h
    refine pE_iv (Bs := []) (st := [.int 1]) 1 rfl (Or.inl ⟨rfl, rfl⟩) rfl rfl (Nat.le_of_ble_eq_true rfl) (Nat.le_of_ble_eq_true rfl) (g_Ledger_size hv3) (f_Ledger_size sp d N S q1 _ hv3) ?_
    refine pE_jump 1 (pc' := 9) (ls' := [some (.ref a)]) (st' := [.int (1 <<< (v3 &&& 31))]) (fun _ => rfl) ?_
    cases h
    exact pE_ret rfl rfl rfl
def F_Plan_hasWorld_17 (N : Nat)  (t0 : Int32) (S : pm_S) : Option (Int32 × pm_S) :=
    if t0 = 0 ∨ t0 = 1 then some (t0, S) else none
set_option maxHeartbeats 4000000 in
set_option maxRecDepth 20000 in
theorem f_Plan_hasWorld_17 (sp : pm_I → List Value → pm_S → pm_O → Prop) (d N : Nat)  (t0 : Int32) (S : pm_S)  (r : (Int32 × pm_S)) (h : F_Plan_hasWorld_17 N  t0 S = some r) : pmE pG (pm_rel pG sp (d + 2)) mi_Plan_hasWorld 17 [none, none] [.int t0] S (some (.int r.1), r.2) := by
  unfold F_Plan_hasWorld_17 at h
  by_cases c1 : t0 = 0 ∨ t0 = 1
  · rw [if_pos c1] at h
    cases h
    exact pE_ret rfl (if_pos c1) rfl
  · rw [if_neg c1] at h
    cases h
def F_Plan_hasWorld_16 (N : Nat)   (S : pm_S) : Option (Int32 × pm_S) :=
    F_Plan_hasWorld_17 N 0 S
set_option maxHeartbeats 4000000 in
set_option maxRecDepth 20000 in
theorem f_Plan_hasWorld_16 (sp : pm_I → List Value → pm_S → pm_O → Prop) (d N : Nat)   (S : pm_S)  (r : (Int32 × pm_S)) (h : F_Plan_hasWorld_16 N   S = some r) : pmE pG (pm_rel pG sp (d + 2)) mi_Plan_hasWorld 16 [none, none] [] S (some (.int r.1), r.2) := by
  unfold F_Plan_hasWorld_16 at h
  refine pE_jump 1 (pc' := 17) (ls' := [none, none]) (st' := [.int 0]) (fun _ => rfl) ?_
  exact f_Plan_hasWorld_17 sp d N 0 S _ h
def F_Plan_hasWorld (N : Nat) (S : pm_S) (a : Nat) (p0 : Int32) : Option (Int32 × pm_S) :=
    if rcv S a 4 = true then
    (if p0 < 0 then
    F_Plan_hasWorld_16 N S
    else
    ((F_Plan_worlds N S a).bind fun (v3, S2) =>
    if v3 ≤ p0 then
    F_Plan_hasWorld_16 N S2
    else
    F_Plan_hasWorld_17 N 1 S2))
    else none
theorem g_Plan_hasWorld {N : Nat} {S : pm_S} {a : Nat} {p0 : Int32} {r : (Int32 × pm_S)} (h : F_Plan_hasWorld N S a p0 = some r) : rcv S a 4 = true := by
  unfold F_Plan_hasWorld at h
  by_cases c : rcv S a 4 = true
  · exact c
  · rw [if_neg c] at h; cases h
set_option maxHeartbeats 4000000 in
set_option maxRecDepth 20000 in
theorem f_Plan_hasWorld (sp : pm_I → List Value → pm_S → pm_O → Prop) (d N : Nat) (S : pm_S) (a : Nat) (p0 : Int32) (r : (Int32 × pm_S)) (h : F_Plan_hasWorld N S a p0 = some r) : pm_rel pG sp (d + 3) mi_Plan_hasWorld [.ref a, .int p0] S (some (.int r.1), r.2) := by
  have hg := g_Plan_hasWorld h
  unfold F_Plan_hasWorld at h
  rw [if_pos hg] at h
  refine pE_rel (d := d + 2) ?_
  show pmE pG _ mi_Plan_hasWorld 0 [some (.ref a), some (.int p0)] [] S _
  refine pE_jump 1 (pc' := 1) (ls' := [some (.ref a), some (.int p0)]) (st' := [.int p0]) (fun _ => rfl) ?_
  refine pE_br (p0 < 0) rfl rfl (fun c5 => ?_) (fun c5 => ?_)
  · rw [if_pos c5] at h
    refine pE_weak [none, none] trivial ?_
    exact f_Plan_hasWorld_16 sp d N S _ h
  · rw [if_neg c5] at h
    refine pE_jump 2 (pc' := 6) (ls' := [some (.ref a), some (.int p0)]) (st' := [.ref a, .int p0]) (fun _ => rfl) ?_
    obtain ⟨⟨v3, S2⟩, hv3, h⟩ := obind h
    try dsimp only at h
    refine pE_iv (Bs := []) (st := [.int p0]) 1 rfl (Or.inl ⟨rfl, rfl⟩) rfl rfl (Nat.le_of_ble_eq_true rfl) (Nat.le_of_ble_eq_true rfl) (g_Plan_worlds hv3) (f_Plan_worlds sp d N S a _ hv3) ?_
    refine pE_br (v3 ≤ p0) rfl rfl (fun c4 => ?_) (fun c4 => ?_)
    · rw [if_pos c4] at h
      refine pE_weak [none, none] trivial ?_
      exact f_Plan_hasWorld_16 sp d N S2 _ h
    · rw [if_neg c4] at h
      refine pE_jump 2 (pc' := 17) (ls' := [some (.ref a), some (.int p0)]) (st' := [.int 1]) (fun _ => rfl) ?_
      refine pE_weak [none, none] trivial ?_
      exact f_Plan_hasWorld_17 sp d N 1 S2 _ h
def F_BP_planWith_23 (N : Nat)   (S : pm_S) : Option (Option Nat × pm_S) :=
    some (none, S)
set_option maxHeartbeats 4000000 in
set_option maxRecDepth 20000 in
theorem f_BP_planWith_23 (sp : pm_I → List Value → pm_S → pm_O → Prop) (d N : Nat)   (S : pm_S)  (r : (Option Nat × pm_S)) (h : F_BP_planWith_23 N   S = some r) : pmE pG (pm_rel pG sp (d + 3)) mi_BP_planWith 23 [none, none, none, none] [.null] S (some (va_rf r.1), r.2) := by
  unfold F_BP_planWith_23 at h
  cases h
  exact pE_ret rfl rfl rfl
def F_BP_planWith_22 (N : Nat)   (S : pm_S) : Option (Option Nat × pm_S) :=
    F_BP_planWith_23 N S
set_option maxHeartbeats 4000000 in
set_option maxRecDepth 20000 in
theorem f_BP_planWith_22 (sp : pm_I → List Value → pm_S → pm_O → Prop) (d N : Nat)   (S : pm_S)  (r : (Option Nat × pm_S)) (h : F_BP_planWith_22 N   S = some r) : pmE pG (pm_rel pG sp (d + 3)) mi_BP_planWith 22 [none, none, none, none] [] S (some (va_rf r.1), r.2) := by
  unfold F_BP_planWith_22 at h
  refine pE_jump 1 (pc' := 23) (ls' := [none, none, none, none]) (st' := [.null]) (fun _ => rfl) ?_
  exact f_BP_planWith_23 sp d N S _ h
def F_BP_planWith_23_2 (N : Nat)  (t0 : Nat) (S : pm_S) : Option (Option Nat × pm_S) :=
    some (some t0, S)
set_option maxHeartbeats 4000000 in
set_option maxRecDepth 20000 in
theorem f_BP_planWith_23_2 (sp : pm_I → List Value → pm_S → pm_O → Prop) (d N : Nat)  (t0 : Nat) (S : pm_S)  (r : (Option Nat × pm_S)) (h : F_BP_planWith_23_2 N  t0 S = some r) : pmE pG (pm_rel pG sp (d + 3)) mi_BP_planWith 23 [none, none, none, none] [.ref t0] S (some (va_rf r.1), r.2) := by
  unfold F_BP_planWith_23_2 at h
  cases h
  exact pE_ret rfl rfl rfl
def F_BP_planWith (N : Nat) (S : pm_S) (a : Nat) (p0 : Int32) (p1 : Int32) : Option (Option Nat × pm_S) :=
    if rcv S a 10 = true then
    ((F_BP_planAt N S a p0).bind fun (oq2, S1) => match oq2 with
    | none => F_BP_planWith_22 N S1
    | some q2 =>
    (F_Plan_hasWorld N S1 q2 p1).bind fun (v4, S3) =>
    if v4 = 0 then
    F_BP_planWith_22 N S3
    else
    F_BP_planWith_23_2 N q2 S3)
    else none
theorem g_BP_planWith {N : Nat} {S : pm_S} {a : Nat} {p0 : Int32} {p1 : Int32} {r : (Option Nat × pm_S)} (h : F_BP_planWith N S a p0 p1 = some r) : rcv S a 10 = true := by
  unfold F_BP_planWith at h
  by_cases c : rcv S a 10 = true
  · exact c
  · rw [if_neg c] at h; cases h
set_option maxHeartbeats 4000000 in
set_option maxRecDepth 20000 in
theorem f_BP_planWith (sp : pm_I → List Value → pm_S → pm_O → Prop) (d N : Nat) (S : pm_S) (a : Nat) (p0 : Int32) (p1 : Int32) (r : (Option Nat × pm_S)) (h : F_BP_planWith N S a p0 p1 = some r) : pm_rel pG sp (d + 4) mi_BP_planWith [.ref a, .int p0, .int p1] S (some (va_rf r.1), r.2) := by
  have hg := g_BP_planWith h
  unfold F_BP_planWith at h
  rw [if_pos hg] at h
  refine pE_rel (d := d + 3) ?_
  show pmE pG _ mi_BP_planWith 0 [some (.ref a), some (.int p0), some (.int p1), none] [] S _
  refine pE_jump 2 (pc' := 2) (ls' := [some (.ref a), some (.int p0), some (.int p1), none]) (st' := [.int p0, .ref a]) (fun _ => rfl) ?_
  obtain ⟨⟨oq2, S1⟩, hq2, h⟩ := obind h
  try dsimp only at h
  cases oq2 with
  | none =>
    try dsimp only at h
    refine pE_iv (Bs := [.int p0]) (st := []) 1 rfl (Or.inl ⟨rfl, rfl⟩) rfl rfl (Nat.le_of_ble_eq_true rfl) (Nat.le_of_ble_eq_true rfl) (g_BP_planAt hq2) (f_BP_planAt sp (d + 2) N S a p0 _ hq2) ?_
    refine pE_jump 3 (pc' := 22) (ls' := [some (.ref a), some (.int p0), some (.int p1), some (.null)]) (st' := []) (fun _ => rfl) ?_
    refine pE_weak [none, none, none, none] trivial ?_
    exact f_BP_planWith_22 sp d N S1 _ h
  | some q2 =>
    try dsimp only at h
    refine pE_iv (Bs := [.int p0]) (st := []) 1 rfl (Or.inl ⟨rfl, rfl⟩) rfl rfl (Nat.le_of_ble_eq_true rfl) (Nat.le_of_ble_eq_true rfl) (g_BP_planAt hq2) (f_BP_planAt sp (d + 2) N S a p0 _ hq2) ?_
    refine pE_jump 5 (pc' := 12) (ls' := [some (.ref a), some (.int p0), some (.int p1), some (.ref q2)]) (st' := [.int p1, .ref q2]) (fun _ => rfl) ?_
    obtain ⟨⟨v4, S3⟩, hv4, h⟩ := obind h
    try dsimp only at h
    refine pE_iv (Bs := [.int p1]) (st := []) 1 rfl (Or.inl ⟨rfl, rfl⟩) rfl rfl (Nat.le_of_ble_eq_true rfl) (Nat.le_of_ble_eq_true rfl) (g_Plan_hasWorld hv4) (f_Plan_hasWorld sp d N S1 q2 p1 _ hv4) ?_
    refine pE_br (v4 = 0) rfl rfl (fun c5 => ?_) (fun c5 => ?_)
    · rw [if_pos c5] at h
      refine pE_weak [none, none, none, none] trivial ?_
      exact f_BP_planWith_22 sp d N S3 _ h
    · rw [if_neg c5] at h
      refine pE_jump 2 (pc' := 23) (ls' := [some (.ref a), some (.int p0), some (.int p1), some (.ref q2)]) (st' := [.ref q2]) (fun _ => rfl) ?_
      refine pE_weak [none, none, none, none] trivial ?_
      exact f_BP_planWith_23_2 sp d N q2 S3 _ h
def F_BP_isEnd_14 (N : Nat)  (t0 : Int32) (S : pm_S) : Option (Int32 × pm_S) :=
    if t0 = 0 ∨ t0 = 1 then some (t0, S) else none
set_option maxHeartbeats 4000000 in
set_option maxRecDepth 20000 in
theorem f_BP_isEnd_14 (sp : pm_I → List Value → pm_S → pm_O → Prop) (d N : Nat)  (t0 : Int32) (S : pm_S)  (r : (Int32 × pm_S)) (h : F_BP_isEnd_14 N  t0 S = some r) : pmE pG (pm_rel pG sp (d + 0)) mi_BP_isEnd 14 [none] [.int t0] S (some (.int r.1), r.2) := by
  unfold F_BP_isEnd_14 at h
  by_cases c1 : t0 = 0 ∨ t0 = 1
  · rw [if_pos c1] at h
    cases h
    exact pE_ret rfl (if_pos c1) rfl
  · rw [if_neg c1] at h
    cases h
def F_BP_isEnd_9 (N : Nat)   (S : pm_S) : Option (Int32 × pm_S) :=
    F_BP_isEnd_14 N 1 S
set_option maxHeartbeats 4000000 in
set_option maxRecDepth 20000 in
theorem f_BP_isEnd_9 (sp : pm_I → List Value → pm_S → pm_O → Prop) (d N : Nat)   (S : pm_S)  (r : (Int32 × pm_S)) (h : F_BP_isEnd_9 N   S = some r) : pmE pG (pm_rel pG sp (d + 0)) mi_BP_isEnd 9 [none] [] S (some (.int r.1), r.2) := by
  unfold F_BP_isEnd_9 at h
  refine pE_jump 2 (pc' := 14) (ls' := [none]) (st' := [.int 1]) (fun _ => rfl) ?_
  exact f_BP_isEnd_14 sp d N 1 S _ h
def F_BP_isEnd (N : Nat) (S : pm_S) (p0 : Int32) : Option (Int32 × pm_S) :=
    if p0 = 0 then
    F_BP_isEnd_9 N S
    else
    (if p0 = 1 then
    F_BP_isEnd_9 N S
    else
    F_BP_isEnd_14 N 0 S)
set_option maxHeartbeats 4000000 in
set_option maxRecDepth 20000 in
theorem f_BP_isEnd (sp : pm_I → List Value → pm_S → pm_O → Prop) (d N : Nat) (S : pm_S) (p0 : Int32) (r : (Int32 × pm_S)) (h : F_BP_isEnd N S p0 = some r) : pm_rel pG sp (d + 1) mi_BP_isEnd [.int p0] S (some (.int r.1), r.2) := by
  unfold F_BP_isEnd at h
  refine pE_rel (d := d + 0) ?_
  show pmE pG _ mi_BP_isEnd 0 [some (.int p0)] [] S _
  refine pE_jump 1 (pc' := 1) (ls' := [some (.int p0)]) (st' := [.int p0]) (fun _ => rfl) ?_
  refine pE_br (p0 = 0) rfl rfl (fun c3 => ?_) (fun c3 => ?_)
  · rw [if_pos c3] at h
    refine pE_weak [none] trivial ?_
    exact f_BP_isEnd_9 sp d N S _ h
  · rw [if_neg c3] at h
    refine pE_jump 2 (pc' := 6) (ls' := [some (.int p0)]) (st' := [.int 1, .int p0]) (fun _ => rfl) ?_
    refine pE_br (¬ p0 = 1) rfl rfl (fun c2 => ?_) (fun c2 => ?_)
    · rw [if_neg c2] at h
      refine pE_jump 1 (pc' := 14) (ls' := [some (.int p0)]) (st' := [.int 0]) (fun _ => rfl) ?_
      refine pE_weak [none] trivial ?_
      exact f_BP_isEnd_14 sp d N 0 S _ h
    · have c2 := Decidable.not_not.mp c2
      rw [if_pos c2] at h
      refine pE_weak [none] trivial ?_
      exact f_BP_isEnd_9 sp d N S _ h
def F_Plan_hasCable (N : Nat) (S : pm_S) (a : Nat) (p0 : Int32) : Option (Int32 × pm_S) :=
    if rcv S a 4 = true then
    ((oR S a 4 1).bind fun oq1 => match oq1 with
    | none => none
    | some q1 =>
    (F_Ledger_has N S q1 p0).bind fun (v3, S2) =>
    if v3 = 0 ∨ v3 = 1 then some (v3, S2) else none)
    else none
theorem g_Plan_hasCable {N : Nat} {S : pm_S} {a : Nat} {p0 : Int32} {r : (Int32 × pm_S)} (h : F_Plan_hasCable N S a p0 = some r) : rcv S a 4 = true := by
  unfold F_Plan_hasCable at h
  by_cases c : rcv S a 4 = true
  · exact c
  · rw [if_neg c] at h; cases h
set_option maxHeartbeats 4000000 in
set_option maxRecDepth 20000 in
theorem f_Plan_hasCable (sp : pm_I → List Value → pm_S → pm_O → Prop) (d N : Nat) (S : pm_S) (a : Nat) (p0 : Int32) (r : (Int32 × pm_S)) (h : F_Plan_hasCable N S a p0 = some r) : pm_rel pG sp (d + 2) mi_Plan_hasCable [.ref a, .int p0] S (some (.int r.1), r.2) := by
  have hg := g_Plan_hasCable h
  unfold F_Plan_hasCable at h
  rw [if_pos hg] at h
  refine pE_rel (d := d + 1) ?_
  show pmE pG _ mi_Plan_hasCable 0 [some (.ref a), some (.int p0)] [] S _
  refine pE_jump 1 (pc' := 1) (ls' := [some (.ref a), some (.int p0)]) (st' := [.ref a]) (fun _ => rfl) ?_
  obtain ⟨oq1, hq1, h⟩ := obind h
  cases oq1 with
  | none => cases h
  | some q1 =>
    try dsimp only at h
    refine pE_gfS rfl rfl hq1 ?_
    refine pE_jump 1 (pc' := 5) (ls' := [some (.ref a), some (.int p0)]) (st' := [.int p0, .ref q1]) (fun _ => rfl) ?_
    obtain ⟨⟨v3, S2⟩, hv3, h⟩ := obind h
    try dsimp only at h
    refine pE_iv (Bs := [.int p0]) (st := []) 1 rfl (Or.inl ⟨rfl, rfl⟩) rfl rfl (Nat.le_of_ble_eq_true rfl) (Nat.le_of_ble_eq_true rfl) (g_Ledger_has hv3) (f_Ledger_has sp d N S q1 p0 _ hv3) ?_
    by_cases c4 : v3 = 0 ∨ v3 = 1
    · rw [if_pos c4] at h
      cases h
      exact pE_ret rfl (if_pos c4) rfl
    · rw [if_neg c4] at h
      cases h
def F_Wires_cross (N : Nat) (S : pm_S) (a : Nat) (p0 : Int32) (p1 : Int32) : Option pm_S :=
    if rcv S a 9 = true then
    ((oR S a 9 2).bind fun oq1 => match oq1 with
    | none => none
    | some q1 =>
    (F_BP_valueAt N S q1 p0).bind fun (v3, S2) =>
    (oR S2 a 9 2).bind fun oq4 => match oq4 with
    | none => none
    | some q4 =>
    (F_BP_valueAt N S2 q4 p1).bind fun (v6, S5) =>
    (oR S5 a 9 2).bind fun oq7 => match oq7 with
    | none => none
    | some q7 =>
    (F_BP_setAt N S5 q7 p0 v6).bind fun S8 =>
    (oR S8 a 9 2).bind fun oq9 => match oq9 with
    | none => none
    | some q9 =>
    (F_BP_setAt N S8 q9 p1 v3).bind fun S10 =>
    (oR S10 a 9 1).bind fun oq11 => match oq11 with
    | none => none
    | some q11 =>
    (F_BP_setAt N S10 q11 v3 p1).bind fun S12 =>
    (oR S12 a 9 1).bind fun oq13 => match oq13 with
    | none => none
    | some q13 =>
    (F_BP_setAt N S12 q13 v6 p0).bind fun S14 =>
    some S14)
    else none
theorem g_Wires_cross {N : Nat} {S : pm_S} {a : Nat} {p0 : Int32} {p1 : Int32} {r : pm_S} (h : F_Wires_cross N S a p0 p1 = some r) : rcv S a 9 = true := by
  unfold F_Wires_cross at h
  by_cases c : rcv S a 9 = true
  · exact c
  · rw [if_neg c] at h; cases h
set_option maxHeartbeats 4000000 in
set_option maxRecDepth 20000 in
theorem f_Wires_cross (sp : pm_I → List Value → pm_S → pm_O → Prop) (d N : Nat) (S : pm_S) (a : Nat) (p0 : Int32) (p1 : Int32) (r : pm_S) (h : F_Wires_cross N S a p0 p1 = some r) : pm_rel pG sp (d + 2) mi_Wires_cross [.ref a, .int p0, .int p1] S (none, r) := by
  have hg := g_Wires_cross h
  unfold F_Wires_cross at h
  rw [if_pos hg] at h
  refine pE_rel (d := d + 1) ?_
  show pmE pG _ mi_Wires_cross 0 [some (.ref a), some (.int p0), some (.int p1), none, none] [] S _
  refine pE_jump 1 (pc' := 1) (ls' := [some (.ref a), some (.int p0), some (.int p1), none, none]) (st' := [.ref a]) (fun _ => rfl) ?_
  obtain ⟨oq1, hq1, h⟩ := obind h
  cases oq1 with
  | none => cases h
  | some q1 =>
    try dsimp only at h
    refine pE_gfS rfl rfl hq1 ?_
    refine pE_jump 1 (pc' := 5) (ls' := [some (.ref a), some (.int p0), some (.int p1), none, none]) (st' := [.int p0, .ref q1]) (fun _ => rfl) ?_
    obtain ⟨⟨v3, S2⟩, hv3, h⟩ := obind h
    try dsimp only at h
    refine pE_is (Bs := [.ref q1, .int p0]) (st := []) rfl rfl rfl (Nat.le_of_ble_eq_true rfl) (Nat.le_of_ble_eq_true rfl) (f_BP_valueAt sp d N S q1 p0 _ hv3) ?_
    refine pE_jump 2 (pc' := 10) (ls' := [some (.ref a), some (.int p0), some (.int p1), some (.int v3), none]) (st' := [.ref a]) (fun _ => rfl) ?_
    obtain ⟨oq4, hq4, h⟩ := obind h
    cases oq4 with
    | none => cases h
    | some q4 =>
      try dsimp only at h
      refine pE_gfS rfl rfl hq4 ?_
      refine pE_jump 1 (pc' := 14) (ls' := [some (.ref a), some (.int p0), some (.int p1), some (.int v3), none]) (st' := [.int p1, .ref q4]) (fun _ => rfl) ?_
      obtain ⟨⟨v6, S5⟩, hv6, h⟩ := obind h
      try dsimp only at h
      refine pE_is (Bs := [.ref q4, .int p1]) (st := []) rfl rfl rfl (Nat.le_of_ble_eq_true rfl) (Nat.le_of_ble_eq_true rfl) (f_BP_valueAt sp d N S2 q4 p1 _ hv6) ?_
      refine pE_jump 2 (pc' := 20) (ls' := [some (.ref a), some (.int p0), some (.int p1), some (.int v3), some (.int v6)]) (st' := [.ref a]) (fun _ => rfl) ?_
      obtain ⟨oq7, hq7, h⟩ := obind h
      cases oq7 with
      | none => cases h
      | some q7 =>
        try dsimp only at h
        refine pE_gfS rfl rfl hq7 ?_
        refine pE_jump 2 (pc' := 26) (ls' := [some (.ref a), some (.int p0), some (.int p1), some (.int v3), some (.int v6)]) (st' := [.int v6, .int p0, .ref q7]) (fun _ => rfl) ?_
        obtain ⟨S8, hS8, h⟩ := obind h
        refine pE_is (Bs := [.ref q7, .int p0, .int v6]) (st := []) rfl rfl rfl (Nat.le_of_ble_eq_true rfl) (Nat.le_of_ble_eq_true rfl) (f_BP_setAt sp d N S5 q7 p0 v6 _ hS8) ?_
        refine pE_jump 1 (pc' := 30) (ls' := [some (.ref a), some (.int p0), some (.int p1), some (.int v3), some (.int v6)]) (st' := [.ref a]) (fun _ => rfl) ?_
        obtain ⟨oq9, hq9, h⟩ := obind h
        cases oq9 with
        | none => cases h
        | some q9 =>
          try dsimp only at h
          refine pE_gfS rfl rfl hq9 ?_
          refine pE_jump 2 (pc' := 35) (ls' := [some (.ref a), some (.int p0), some (.int p1), some (.int v3), some (.int v6)]) (st' := [.int v3, .int p1, .ref q9]) (fun _ => rfl) ?_
          obtain ⟨S10, hS10, h⟩ := obind h
          refine pE_is (Bs := [.ref q9, .int p1, .int v3]) (st := []) rfl rfl rfl (Nat.le_of_ble_eq_true rfl) (Nat.le_of_ble_eq_true rfl) (f_BP_setAt sp d N S8 q9 p1 v3 _ hS10) ?_
          refine pE_jump 1 (pc' := 39) (ls' := [some (.ref a), some (.int p0), some (.int p1), some (.int v3), some (.int v6)]) (st' := [.ref a]) (fun _ => rfl) ?_
          obtain ⟨oq11, hq11, h⟩ := obind h
          cases oq11 with
          | none => cases h
          | some q11 =>
            try dsimp only at h
            refine pE_gfS rfl rfl hq11 ?_
            refine pE_jump 2 (pc' := 44) (ls' := [some (.ref a), some (.int p0), some (.int p1), some (.int v3), some (.int v6)]) (st' := [.int p1, .int v3, .ref q11]) (fun _ => rfl) ?_
            obtain ⟨S12, hS12, h⟩ := obind h
            refine pE_is (Bs := [.ref q11, .int v3, .int p1]) (st := []) rfl rfl rfl (Nat.le_of_ble_eq_true rfl) (Nat.le_of_ble_eq_true rfl) (f_BP_setAt sp d N S10 q11 v3 p1 _ hS12) ?_
            refine pE_jump 1 (pc' := 48) (ls' := [some (.ref a), some (.int p0), some (.int p1), some (.int v3), some (.int v6)]) (st' := [.ref a]) (fun _ => rfl) ?_
            obtain ⟨oq13, hq13, h⟩ := obind h
            cases oq13 with
            | none => cases h
            | some q13 =>
              try dsimp only at h
              refine pE_gfS rfl rfl hq13 ?_
              refine pE_jump 2 (pc' := 54) (ls' := [some (.ref a), some (.int p0), some (.int p1), some (.int v3), some (.int v6)]) (st' := [.int p0, .int v6, .ref q13]) (fun _ => rfl) ?_
              obtain ⟨S14, hS14, h⟩ := obind h
              refine pE_is (Bs := [.ref q13, .int v6, .int p0]) (st := []) rfl rfl rfl (Nat.le_of_ble_eq_true rfl) (Nat.le_of_ble_eq_true rfl) (f_BP_setAt sp d N S12 q13 v6 p0 _ hS14) ?_
              cases h
              exact pE_ret rfl rfl rfl
def F_Wires_cut_64 (N : Nat)   (S : pm_S) : Option pm_S :=
    some S
set_option maxHeartbeats 4000000 in
set_option maxRecDepth 20000 in
theorem f_Wires_cut_64 (sp : pm_I → List Value → pm_S → pm_O → Prop) (d N : Nat)   (S : pm_S)  (r : pm_S) (h : F_Wires_cut_64 N   S = some r) : pmE pG (pm_rel pG sp (d + 1)) mi_Wires_cut 64 [none, none, none] [] S (none, r) := by
  unfold F_Wires_cut_64 at h
  cases h
  exact pE_ret rfl rfl rfl
def F_Wires_cut (N : Nat) (S : pm_S) (a : Nat) (p0 : Int32) (p1 : Int32) : Option pm_S :=
    if rcv S a 9 = true then
    ((oI S a 9 11).bind fun v1 =>
    (oR S a 9 4).bind fun oq2 => match oq2 with
    | none => none
    | some q2 =>
    (aNS S q2).bind fun v3 =>
    if v3 ≤ v1 then
    F_Wires_cut_64 N S
    else
    ((oR S a 9 4).bind fun oq4 => match oq4 with
    | none => none
    | some q4 =>
    (oI S a 9 11).bind fun v6 =>
    (F_BP_setAt N S q4 v6 p0).bind fun S7 =>
    (oR S7 a 9 5).bind fun oq8 => match oq8 with
    | none => none
    | some q8 =>
    (oI S7 a 9 11).bind fun v10 =>
    (F_BP_setAt N S7 q8 v10 p1).bind fun S11 =>
    (oR S11 a 9 3).bind fun oq12 => match oq12 with
    | none => none
    | some q12 =>
    (oR S11 a 9 3).bind fun oq16 => match oq16 with
    | none => none
    | some q16 =>
    (F_BP_valueAt N S11 q16 p0).bind fun (v18, S17) =>
    (F_BP_setAt N S17 q12 p0 (v18 + 1)).bind fun S19 =>
    (oI S19 a 9 11).bind fun v20 =>
    (wF S19 a 9 11 .int (.int (v20 + 1))).bind fun S21 =>
    F_Wires_cut_64 N S21))
    else none
theorem g_Wires_cut {N : Nat} {S : pm_S} {a : Nat} {p0 : Int32} {p1 : Int32} {r : pm_S} (h : F_Wires_cut N S a p0 p1 = some r) : rcv S a 9 = true := by
  unfold F_Wires_cut at h
  by_cases c : rcv S a 9 = true
  · exact c
  · rw [if_neg c] at h; cases h
set_option maxHeartbeats 4000000 in
set_option maxRecDepth 20000 in
theorem f_Wires_cut (sp : pm_I → List Value → pm_S → pm_O → Prop) (d N : Nat) (S : pm_S) (a : Nat) (p0 : Int32) (p1 : Int32) (r : pm_S) (h : F_Wires_cut N S a p0 p1 = some r) : pm_rel pG sp (d + 2) mi_Wires_cut [.ref a, .int p0, .int p1] S (none, r) := by
  have hg := g_Wires_cut h
  unfold F_Wires_cut at h
  rw [if_pos hg] at h
  refine pE_rel (d := d + 1) ?_
  show pmE pG _ mi_Wires_cut 0 [some (.ref a), some (.int p0), some (.int p1)] [] S _
  refine pE_jump 1 (pc' := 1) (ls' := [some (.ref a), some (.int p0), some (.int p1)]) (st' := [.ref a]) (fun _ => rfl) ?_
  obtain ⟨v1, hv1, h⟩ := obind h
  refine pE_gfI rfl rfl hv1 ?_
  refine pE_jump 1 (pc' := 5) (ls' := [some (.ref a), some (.int p0), some (.int p1)]) (st' := [.ref a, .int v1]) (fun _ => rfl) ?_
  obtain ⟨oq2, hq2, h⟩ := obind h
  cases oq2 with
  | none => cases h
  | some q2 =>
    try dsimp only at h
    refine pE_gfS rfl rfl hq2 ?_
    obtain ⟨v3, hv3, h⟩ := obind h
    refine pE_aN rfl hv3 ?_
    refine pE_br (v3 ≤ v1) rfl rfl (fun c22 => ?_) (fun c22 => ?_)
    · rw [if_pos c22] at h
      refine pE_weak [none, none, none] trivial ?_
      exact f_Wires_cut_64 sp d N S _ h
    · rw [if_neg c22] at h
      refine pE_jump 1 (pc' := 13) (ls' := [some (.ref a), some (.int p0), some (.int p1)]) (st' := [.ref a]) (fun _ => rfl) ?_
      obtain ⟨oq4, hq4, h⟩ := obind h
      cases oq4 with
      | none => cases h
      | some q4 =>
        try dsimp only at h
        refine pE_gfS rfl rfl hq4 ?_
        refine pE_jump 1 (pc' := 17) (ls' := [some (.ref a), some (.int p0), some (.int p1)]) (st' := [.ref a, .ref q4]) (fun _ => rfl) ?_
        obtain ⟨v6, hv6, h⟩ := obind h
        refine pE_gfI rfl rfl hv6 ?_
        refine pE_jump 1 (pc' := 21) (ls' := [some (.ref a), some (.int p0), some (.int p1)]) (st' := [.int p0, .int v6, .ref q4]) (fun _ => rfl) ?_
        obtain ⟨S7, hS7, h⟩ := obind h
        refine pE_is (Bs := [.ref q4, .int v6, .int p0]) (st := []) rfl rfl rfl (Nat.le_of_ble_eq_true rfl) (Nat.le_of_ble_eq_true rfl) (f_BP_setAt sp d N S q4 v6 p0 _ hS7) ?_
        refine pE_jump 1 (pc' := 25) (ls' := [some (.ref a), some (.int p0), some (.int p1)]) (st' := [.ref a]) (fun _ => rfl) ?_
        obtain ⟨oq8, hq8, h⟩ := obind h
        cases oq8 with
        | none => cases h
        | some q8 =>
          try dsimp only at h
          refine pE_gfS rfl rfl hq8 ?_
          refine pE_jump 1 (pc' := 29) (ls' := [some (.ref a), some (.int p0), some (.int p1)]) (st' := [.ref a, .ref q8]) (fun _ => rfl) ?_
          obtain ⟨v10, hv10, h⟩ := obind h
          refine pE_gfI rfl rfl hv10 ?_
          refine pE_jump 1 (pc' := 33) (ls' := [some (.ref a), some (.int p0), some (.int p1)]) (st' := [.int p1, .int v10, .ref q8]) (fun _ => rfl) ?_
          obtain ⟨S11, hS11, h⟩ := obind h
          refine pE_is (Bs := [.ref q8, .int v10, .int p1]) (st := []) rfl rfl rfl (Nat.le_of_ble_eq_true rfl) (Nat.le_of_ble_eq_true rfl) (f_BP_setAt sp d N S7 q8 v10 p1 _ hS11) ?_
          refine pE_jump 1 (pc' := 37) (ls' := [some (.ref a), some (.int p0), some (.int p1)]) (st' := [.ref a]) (fun _ => rfl) ?_
          obtain ⟨oq12, hq12, h⟩ := obind h
          cases oq12 with
          | none => cases h
          | some q12 =>
            try dsimp only at h
            refine pE_gfS rfl rfl hq12 ?_
            refine pE_jump 2 (pc' := 42) (ls' := [some (.ref a), some (.int p0), some (.int p1)]) (st' := [.ref a, .int p0, .ref q12]) (fun _ => rfl) ?_
            obtain ⟨oq16, hq16, h⟩ := obind h
            cases oq16 with
            | none => cases h
            | some q16 =>
              try dsimp only at h
              refine pE_gfS rfl rfl hq16 ?_
              refine pE_jump 1 (pc' := 46) (ls' := [some (.ref a), some (.int p0), some (.int p1)]) (st' := [.int p0, .ref q16, .int p0, .ref q12]) (fun _ => rfl) ?_
              obtain ⟨⟨v18, S17⟩, hv18, h⟩ := obind h
              try dsimp only at h
              refine pE_is (Bs := [.ref q16, .int p0]) (st := [.int p0, .ref q12]) rfl rfl rfl (Nat.le_of_ble_eq_true rfl) (Nat.le_of_ble_eq_true rfl) (f_BP_valueAt sp d N S11 q16 p0 _ hv18) ?_
              refine pE_jump 2 (pc' := 51) (ls' := [some (.ref a), some (.int p0), some (.int p1)]) (st' := [.int (v18 + 1), .int p0, .ref q12]) (fun _ => rfl) ?_
              obtain ⟨S19, hS19, h⟩ := obind h
              refine pE_is (Bs := [.ref q12, .int p0, .int (v18 + 1)]) (st := []) rfl rfl rfl (Nat.le_of_ble_eq_true rfl) (Nat.le_of_ble_eq_true rfl) (f_BP_setAt sp d N S17 q12 p0 (v18 + 1) _ hS19) ?_
              refine pE_jump 2 (pc' := 56) (ls' := [some (.ref a), some (.int p0), some (.int p1)]) (st' := [.ref a, .ref a]) (fun _ => rfl) ?_
              obtain ⟨v20, hv20, h⟩ := obind h
              refine pE_gfI rfl rfl hv20 ?_
              refine pE_jump 2 (pc' := 61) (ls' := [some (.ref a), some (.int p0), some (.int p1)]) (st' := [.int (v20 + 1), .ref a]) (fun _ => rfl) ?_
              obtain ⟨S21, hS21, h⟩ := obind h
              refine pE_pf rfl rfl rfl hS21 ?_
              refine pE_weak [none, none, none] trivial ?_
              exact f_Wires_cut_64 sp d N S21 _ h
def F_Wires_bringTogether_58 (N : Nat)   (S : pm_S) : Option pm_S :=
    some S
set_option maxHeartbeats 4000000 in
set_option maxRecDepth 20000 in
theorem f_Wires_bringTogether_58 (sp : pm_I → List Value → pm_S → pm_O → Prop) (d N : Nat)   (S : pm_S)  (r : pm_S) (h : F_Wires_bringTogether_58 N   S = some r) : pmE pG (pm_rel pG sp (d + 1)) mi_Wires_bringTogether 58 [none, none, none, none] [] S (none, r) := by
  unfold F_Wires_bringTogether_58 at h
  cases h
  exact pE_ret rfl rfl rfl
def F_Wires_bringTogether (N : Nat) (S : pm_S) (a : Nat) (p0 : Int32) (p1 : Int32) (p2 : Int32) : Option pm_S :=
    if rcv S a 9 = true then
    ((oI S a 9 12).bind fun v1 =>
    (oR S a 9 6).bind fun oq2 => match oq2 with
    | none => none
    | some q2 =>
    (aNS S q2).bind fun v3 =>
    if v3 ≤ v1 then
    F_Wires_bringTogether_58 N S
    else
    ((oR S a 9 6).bind fun oq4 => match oq4 with
    | none => none
    | some q4 =>
    (oI S a 9 12).bind fun v6 =>
    (F_BP_setAt N S q4 v6 p0).bind fun S7 =>
    (oR S7 a 9 7).bind fun oq8 => match oq8 with
    | none => none
    | some q8 =>
    (oI S7 a 9 12).bind fun v10 =>
    (F_BP_setAt N S7 q8 v10 p1).bind fun S11 =>
    (oR S11 a 9 8).bind fun oq12 => match oq12 with
    | none => none
    | some q12 =>
    (oI S11 a 9 12).bind fun v14 =>
    (F_BP_setAt N S11 q12 v14 p2).bind fun S15 =>
    (oI S15 a 9 12).bind fun v16 =>
    (wF S15 a 9 12 .int (.int (v16 + 1))).bind fun S17 =>
    F_Wires_bringTogether_58 N S17))
    else none
theorem g_Wires_bringTogether {N : Nat} {S : pm_S} {a : Nat} {p0 : Int32} {p1 : Int32} {p2 : Int32} {r : pm_S} (h : F_Wires_bringTogether N S a p0 p1 p2 = some r) : rcv S a 9 = true := by
  unfold F_Wires_bringTogether at h
  by_cases c : rcv S a 9 = true
  · exact c
  · rw [if_neg c] at h; cases h
set_option maxHeartbeats 4000000 in
set_option maxRecDepth 20000 in
theorem f_Wires_bringTogether (sp : pm_I → List Value → pm_S → pm_O → Prop) (d N : Nat) (S : pm_S) (a : Nat) (p0 : Int32) (p1 : Int32) (p2 : Int32) (r : pm_S) (h : F_Wires_bringTogether N S a p0 p1 p2 = some r) : pm_rel pG sp (d + 2) mi_Wires_bringTogether [.ref a, .int p0, .int p1, .int p2] S (none, r) := by
  have hg := g_Wires_bringTogether h
  unfold F_Wires_bringTogether at h
  rw [if_pos hg] at h
  refine pE_rel (d := d + 1) ?_
  show pmE pG _ mi_Wires_bringTogether 0 [some (.ref a), some (.int p0), some (.int p1), some (.int p2)] [] S _
  refine pE_jump 1 (pc' := 1) (ls' := [some (.ref a), some (.int p0), some (.int p1), some (.int p2)]) (st' := [.ref a]) (fun _ => rfl) ?_
  obtain ⟨v1, hv1, h⟩ := obind h
  refine pE_gfI rfl rfl hv1 ?_
  refine pE_jump 1 (pc' := 5) (ls' := [some (.ref a), some (.int p0), some (.int p1), some (.int p2)]) (st' := [.ref a, .int v1]) (fun _ => rfl) ?_
  obtain ⟨oq2, hq2, h⟩ := obind h
  cases oq2 with
  | none => cases h
  | some q2 =>
    try dsimp only at h
    refine pE_gfS rfl rfl hq2 ?_
    obtain ⟨v3, hv3, h⟩ := obind h
    refine pE_aN rfl hv3 ?_
    refine pE_br (v3 ≤ v1) rfl rfl (fun c18 => ?_) (fun c18 => ?_)
    · rw [if_pos c18] at h
      refine pE_weak [none, none, none, none] trivial ?_
      exact f_Wires_bringTogether_58 sp d N S _ h
    · rw [if_neg c18] at h
      refine pE_jump 1 (pc' := 13) (ls' := [some (.ref a), some (.int p0), some (.int p1), some (.int p2)]) (st' := [.ref a]) (fun _ => rfl) ?_
      obtain ⟨oq4, hq4, h⟩ := obind h
      cases oq4 with
      | none => cases h
      | some q4 =>
        try dsimp only at h
        refine pE_gfS rfl rfl hq4 ?_
        refine pE_jump 1 (pc' := 17) (ls' := [some (.ref a), some (.int p0), some (.int p1), some (.int p2)]) (st' := [.ref a, .ref q4]) (fun _ => rfl) ?_
        obtain ⟨v6, hv6, h⟩ := obind h
        refine pE_gfI rfl rfl hv6 ?_
        refine pE_jump 1 (pc' := 21) (ls' := [some (.ref a), some (.int p0), some (.int p1), some (.int p2)]) (st' := [.int p0, .int v6, .ref q4]) (fun _ => rfl) ?_
        obtain ⟨S7, hS7, h⟩ := obind h
        refine pE_is (Bs := [.ref q4, .int v6, .int p0]) (st := []) rfl rfl rfl (Nat.le_of_ble_eq_true rfl) (Nat.le_of_ble_eq_true rfl) (f_BP_setAt sp d N S q4 v6 p0 _ hS7) ?_
        refine pE_jump 1 (pc' := 25) (ls' := [some (.ref a), some (.int p0), some (.int p1), some (.int p2)]) (st' := [.ref a]) (fun _ => rfl) ?_
        obtain ⟨oq8, hq8, h⟩ := obind h
        cases oq8 with
        | none => cases h
        | some q8 =>
          try dsimp only at h
          refine pE_gfS rfl rfl hq8 ?_
          refine pE_jump 1 (pc' := 29) (ls' := [some (.ref a), some (.int p0), some (.int p1), some (.int p2)]) (st' := [.ref a, .ref q8]) (fun _ => rfl) ?_
          obtain ⟨v10, hv10, h⟩ := obind h
          refine pE_gfI rfl rfl hv10 ?_
          refine pE_jump 1 (pc' := 33) (ls' := [some (.ref a), some (.int p0), some (.int p1), some (.int p2)]) (st' := [.int p1, .int v10, .ref q8]) (fun _ => rfl) ?_
          obtain ⟨S11, hS11, h⟩ := obind h
          refine pE_is (Bs := [.ref q8, .int v10, .int p1]) (st := []) rfl rfl rfl (Nat.le_of_ble_eq_true rfl) (Nat.le_of_ble_eq_true rfl) (f_BP_setAt sp d N S7 q8 v10 p1 _ hS11) ?_
          refine pE_jump 1 (pc' := 37) (ls' := [some (.ref a), some (.int p0), some (.int p1), some (.int p2)]) (st' := [.ref a]) (fun _ => rfl) ?_
          obtain ⟨oq12, hq12, h⟩ := obind h
          cases oq12 with
          | none => cases h
          | some q12 =>
            try dsimp only at h
            refine pE_gfS rfl rfl hq12 ?_
            refine pE_jump 1 (pc' := 41) (ls' := [some (.ref a), some (.int p0), some (.int p1), some (.int p2)]) (st' := [.ref a, .ref q12]) (fun _ => rfl) ?_
            obtain ⟨v14, hv14, h⟩ := obind h
            refine pE_gfI rfl rfl hv14 ?_
            refine pE_jump 1 (pc' := 45) (ls' := [some (.ref a), some (.int p0), some (.int p1), some (.int p2)]) (st' := [.int p2, .int v14, .ref q12]) (fun _ => rfl) ?_
            obtain ⟨S15, hS15, h⟩ := obind h
            refine pE_is (Bs := [.ref q12, .int v14, .int p2]) (st := []) rfl rfl rfl (Nat.le_of_ble_eq_true rfl) (Nat.le_of_ble_eq_true rfl) (f_BP_setAt sp d N S11 q12 v14 p2 _ hS15) ?_
            refine pE_jump 2 (pc' := 50) (ls' := [some (.ref a), some (.int p0), some (.int p1), some (.int p2)]) (st' := [.ref a, .ref a]) (fun _ => rfl) ?_
            obtain ⟨v16, hv16, h⟩ := obind h
            refine pE_gfI rfl rfl hv16 ?_
            refine pE_jump 2 (pc' := 55) (ls' := [some (.ref a), some (.int p0), some (.int p1), some (.int p2)]) (st' := [.int (v16 + 1), .ref a]) (fun _ => rfl) ?_
            obtain ⟨S17, hS17, h⟩ := obind h
            refine pE_pf rfl rfl rfl hS17 ?_
            refine pE_weak [none, none, none, none] trivial ?_
            exact f_Wires_bringTogether_58 sp d N S17 _ h
def F_Wires_befall (N : Nat) (S : pm_S) (a : Nat) (p0 : Nat) (p1 : Int32) : Option (Int32 × pm_S) :=
    if rcv S a 9 = true then
    ((F_Ledger_at N S p0 p1 1).bind fun (v2, S1) =>
    (F_Ledger_at N S1 p0 p1 2).bind fun (v4, S3) =>
    (F_BP_siteOf N S3 v2 v4).bind fun (v6, S5) =>
    (F_Ledger_at N S5 p0 p1 3).bind fun (v8, S7) =>
    (F_BP_siteOf N S7 v2 v8).bind fun (v10, S9) =>
    (F_Ledger_at N S9 p0 p1 4).bind fun (v12, S11) =>
    (F_Ledger_at N S11 p0 p1 0).bind fun (v14, S13) =>
    if v14 = 0 then
    ((F_Wires_cross N S13 a v6 v10).bind fun S20 =>
    some (0, S20))
    else
    (if v14 = 1 then
    ((F_Wires_cut N S13 a v6 v12).bind fun S19 =>
    some (0, S19))
    else
    (if v14 = 2 then
    ((F_Wires_bringTogether N S13 a v6 v10 v12).bind fun S18 =>
    some (0, S18))
    else
    some (1 <<< (v2 &&& 31), S13))))
    else none
theorem g_Wires_befall {N : Nat} {S : pm_S} {a : Nat} {p0 : Nat} {p1 : Int32} {r : (Int32 × pm_S)} (h : F_Wires_befall N S a p0 p1 = some r) : rcv S a 9 = true := by
  unfold F_Wires_befall at h
  by_cases c : rcv S a 9 = true
  · exact c
  · rw [if_neg c] at h; cases h
set_option maxHeartbeats 4000000 in
set_option maxRecDepth 20000 in
theorem f_Wires_befall (sp : pm_I → List Value → pm_S → pm_O → Prop) (d N : Nat) (S : pm_S) (a : Nat) (p0 : Nat) (p1 : Int32) (r : (Int32 × pm_S)) (h : F_Wires_befall N S a p0 p1 = some r) : pm_rel pG sp (d + 3) mi_Wires_befall [.ref a, .ref p0, .int p1] S (some (.int r.1), r.2) := by
  have hg := g_Wires_befall h
  unfold F_Wires_befall at h
  rw [if_pos hg] at h
  refine pE_rel (d := d + 2) ?_
  show pmE pG _ mi_Wires_befall 0 [some (.ref a), some (.ref p0), some (.int p1), none, none, none, none] [] S _
  refine pE_jump 3 (pc' := 3) (ls' := [some (.ref a), some (.ref p0), some (.int p1), none, none, none, none]) (st' := [.int 1, .int p1, .ref p0]) (fun _ => rfl) ?_
  obtain ⟨⟨v2, S1⟩, hv2, h⟩ := obind h
  try dsimp only at h
  refine pE_iv (Bs := [.int p1, .int 1]) (st := []) 1 rfl (Or.inl ⟨rfl, rfl⟩) rfl rfl (Nat.le_of_ble_eq_true rfl) (Nat.le_of_ble_eq_true rfl) (g_Ledger_at hv2) (f_Ledger_at sp (d + 1) N S p0 p1 1 _ hv2) ?_
  refine pE_jump 5 (pc' := 11) (ls' := [some (.ref a), some (.ref p0), some (.int p1), some (.int v2), none, none, none]) (st' := [.int 2, .int p1, .ref p0, .int v2]) (fun _ => rfl) ?_
  obtain ⟨⟨v4, S3⟩, hv4, h⟩ := obind h
  try dsimp only at h
  refine pE_iv (Bs := [.int p1, .int 2]) (st := [.int v2]) 1 rfl (Or.inl ⟨rfl, rfl⟩) rfl rfl (Nat.le_of_ble_eq_true rfl) (Nat.le_of_ble_eq_true rfl) (g_Ledger_at hv4) (f_Ledger_at sp (d + 1) N S1 p0 p1 2 _ hv4) ?_
  obtain ⟨⟨v6, S5⟩, hv6, h⟩ := obind h
  try dsimp only at h
  refine pE_is (Bs := [.int v2, .int v4]) (st := []) rfl rfl rfl (Nat.le_of_ble_eq_true rfl) (Nat.le_of_ble_eq_true rfl) (f_BP_siteOf sp (d + 1) N S3 v2 v4 _ hv6) ?_
  refine pE_jump 5 (pc' := 23) (ls' := [some (.ref a), some (.ref p0), some (.int p1), some (.int v2), some (.int v6), none, none]) (st' := [.int 3, .int p1, .ref p0, .int v2]) (fun _ => rfl) ?_
  obtain ⟨⟨v8, S7⟩, hv8, h⟩ := obind h
  try dsimp only at h
  refine pE_iv (Bs := [.int p1, .int 3]) (st := [.int v2]) 1 rfl (Or.inl ⟨rfl, rfl⟩) rfl rfl (Nat.le_of_ble_eq_true rfl) (Nat.le_of_ble_eq_true rfl) (g_Ledger_at hv8) (f_Ledger_at sp (d + 1) N S5 p0 p1 3 _ hv8) ?_
  obtain ⟨⟨v10, S9⟩, hv10, h⟩ := obind h
  try dsimp only at h
  refine pE_is (Bs := [.int v2, .int v8]) (st := []) rfl rfl rfl (Nat.le_of_ble_eq_true rfl) (Nat.le_of_ble_eq_true rfl) (f_BP_siteOf sp (d + 1) N S7 v2 v8 _ hv10) ?_
  refine pE_jump 4 (pc' := 34) (ls' := [some (.ref a), some (.ref p0), some (.int p1), some (.int v2), some (.int v6), some (.int v10), none]) (st' := [.int 4, .int p1, .ref p0]) (fun _ => rfl) ?_
  obtain ⟨⟨v12, S11⟩, hv12, h⟩ := obind h
  try dsimp only at h
  refine pE_iv (Bs := [.int p1, .int 4]) (st := []) 1 rfl (Or.inl ⟨rfl, rfl⟩) rfl rfl (Nat.le_of_ble_eq_true rfl) (Nat.le_of_ble_eq_true rfl) (g_Ledger_at hv12) (f_Ledger_at sp (d + 1) N S9 p0 p1 4 _ hv12) ?_
  refine pE_jump 4 (pc' := 42) (ls' := [some (.ref a), some (.ref p0), some (.int p1), some (.int v2), some (.int v6), some (.int v10), some (.int v12)]) (st' := [.int 0, .int p1, .ref p0]) (fun _ => rfl) ?_
  obtain ⟨⟨v14, S13⟩, hv14, h⟩ := obind h
  try dsimp only at h
  refine pE_iv (Bs := [.int p1, .int 0]) (st := []) 1 rfl (Or.inl ⟨rfl, rfl⟩) rfl rfl (Nat.le_of_ble_eq_true rfl) (Nat.le_of_ble_eq_true rfl) (g_Ledger_at hv14) (f_Ledger_at sp (d + 1) N S11 p0 p1 0 _ hv14) ?_
  by_cases c15 : v14 = 0
  · rw [if_pos c15] at h
    refine pE_nx (pc' := 72) (ls' := [some (.ref a), some (.ref p0), some (.int p1), some (.int v2), some (.int v6), some (.int v10), some (.int v12)]) (st' := []) (S' := S13) rfl (by rw [c15]; rfl) ?_
    refine pE_jump 3 (pc' := 77) (ls' := [some (.ref a), some (.ref p0), some (.int p1), some (.int v2), some (.int v6), some (.int v10), some (.int v12)]) (st' := [.int v10, .int v6, .ref a]) (fun _ => rfl) ?_
    obtain ⟨S20, hS20, h⟩ := obind h
    refine pE_iv (Bs := [.int v6, .int v10]) (st := []) 1 rfl (Or.inl ⟨rfl, rfl⟩) rfl rfl (Nat.le_of_ble_eq_true rfl) (Nat.le_of_ble_eq_true rfl) (g_Wires_cross hS20) (f_Wires_cross sp d N S13 a v6 v10 _ hS20) ?_
    refine pE_jump 1 (pc' := 81) (ls' := [some (.ref a), some (.ref p0), some (.int p1), some (.int v2), some (.int v6), some (.int v10), some (.int v12)]) (st' := [.int 0]) (fun _ => rfl) ?_
    cases h
    exact pE_ret rfl rfl rfl
  · rw [if_neg c15] at h
    by_cases c16 : v14 = 1
    · rw [if_pos c16] at h
      refine pE_nx (pc' := 82) (ls' := [some (.ref a), some (.ref p0), some (.int p1), some (.int v2), some (.int v6), some (.int v10), some (.int v12)]) (st' := []) (S' := S13) rfl (by rw [c16]; rfl) ?_
      refine pE_jump 3 (pc' := 87) (ls' := [some (.ref a), some (.ref p0), some (.int p1), some (.int v2), some (.int v6), some (.int v10), some (.int v12)]) (st' := [.int v12, .int v6, .ref a]) (fun _ => rfl) ?_
      obtain ⟨S19, hS19, h⟩ := obind h
      refine pE_iv (Bs := [.int v6, .int v12]) (st := []) 1 rfl (Or.inl ⟨rfl, rfl⟩) rfl rfl (Nat.le_of_ble_eq_true rfl) (Nat.le_of_ble_eq_true rfl) (g_Wires_cut hS19) (f_Wires_cut sp d N S13 a v6 v12 _ hS19) ?_
      refine pE_jump 1 (pc' := 91) (ls' := [some (.ref a), some (.ref p0), some (.int p1), some (.int v2), some (.int v6), some (.int v10), some (.int v12)]) (st' := [.int 0]) (fun _ => rfl) ?_
      cases h
      exact pE_ret rfl rfl rfl
    · rw [if_neg c16] at h
      by_cases c17 : v14 = 2
      · rw [if_pos c17] at h
        refine pE_nx (pc' := 92) (ls' := [some (.ref a), some (.ref p0), some (.int p1), some (.int v2), some (.int v6), some (.int v10), some (.int v12)]) (st' := []) (S' := S13) rfl (by rw [c17]; rfl) ?_
        refine pE_jump 4 (pc' := 99) (ls' := [some (.ref a), some (.ref p0), some (.int p1), some (.int v2), some (.int v6), some (.int v10), some (.int v12)]) (st' := [.int v12, .int v10, .int v6, .ref a]) (fun _ => rfl) ?_
        obtain ⟨S18, hS18, h⟩ := obind h
        refine pE_iv (Bs := [.int v6, .int v10, .int v12]) (st := []) 1 rfl (Or.inl ⟨rfl, rfl⟩) rfl rfl (Nat.le_of_ble_eq_true rfl) (Nat.le_of_ble_eq_true rfl) (g_Wires_bringTogether hS18) (f_Wires_bringTogether sp d N S13 a v6 v10 v12 _ hS18) ?_
        refine pE_jump 1 (pc' := 103) (ls' := [some (.ref a), some (.ref p0), some (.int p1), some (.int v2), some (.int v6), some (.int v10), some (.int v12)]) (st' := [.int 0]) (fun _ => rfl) ?_
        cases h
        exact pE_ret rfl rfl rfl
      · rw [if_neg c17] at h
        refine pE_swD (pc' := 104) rfl (pm_swd2 c15 c16 c17) (by decide) rfl ?_
        refine pE_jump 3 (pc' := 107) (ls' := [some (.ref a), some (.ref p0), some (.int p1), some (.int v2), some (.int v6), some (.int v10), some (.int v12)]) (st' := [.int (1 <<< (v2 &&& 31))]) (fun _ => rfl) ?_
        cases h
        exact pE_ret rfl rfl rfl
def F_Wires_layoutWithout_72 (N : Nat)  (x0 : Nat) (S : pm_S) : Option (Option Nat × pm_S) :=
    (oR S x0 9 0).bind fun oq8 => match oq8 with
    | none => some (none, S)
    | some q8 =>
    some (some q8, S)
set_option maxHeartbeats 4000000 in
set_option maxRecDepth 20000 in
theorem f_Wires_layoutWithout_72 (sp : pm_I → List Value → pm_S → pm_O → Prop) (d N : Nat)  (x0 : Nat) (S : pm_S)  (r : (Option Nat × pm_S)) (h : F_Wires_layoutWithout_72 N  x0 S = some r) : pmE pG (pm_rel pG sp (d + 3)) mi_Wires_layoutWithout 72 [some (.ref x0), none, none, none] [] S (some (va_rf r.1), r.2) := by
  unfold F_Wires_layoutWithout_72 at h
  refine pE_jump 1 (pc' := 73) (ls' := [some (.ref x0), none, none, none]) (st' := [.ref x0]) (fun _ => rfl) ?_
  obtain ⟨oq8, hq8, h⟩ := obind h
  cases oq8 with
  | none =>
    try dsimp only at h
    refine pE_gfN rfl rfl hq8 ?_
    cases h
    exact pE_ret rfl rfl rfl
  | some q8 =>
    try dsimp only at h
    refine pE_gfS rfl rfl hq8 ?_
    cases h
    exact pE_ret rfl rfl rfl
def F_Wires_layoutWithout_66 (N : Nat) (rec13 : Int32 → pm_S → Option (Option Nat × pm_S)) (x0 : Nat) (x1 : Nat) (x2 : Int32) (x3 : Int32) (S : pm_S) : Option (Option Nat × pm_S) :=
    rec13 (x3 + 1) S
set_option maxHeartbeats 4000000 in
set_option maxRecDepth 20000 in
theorem f_Wires_layoutWithout_66 (sp : pm_I → List Value → pm_S → pm_O → Prop) (d N : Nat) (rec13 : Int32 → pm_S → Option (Option Nat × pm_S)) (x0 : Nat) (x1 : Nat) (x2 : Int32) (x3 : Int32) (S : pm_S) (hrec13 : ∀ (y1 : Int32) (U : pm_S) (r : (Option Nat × pm_S)), rec13 y1 U = some r → pmE pG (pm_rel pG sp (d + 3)) mi_Wires_layoutWithout 13 [some (.ref x0), some (.ref x1), some (.int x2), some (.int y1)] [] U (some (va_rf r.1), r.2)) (r : (Option Nat × pm_S)) (h : F_Wires_layoutWithout_66 N rec13 x0 x1 x2 x3 S = some r) : pmE pG (pm_rel pG sp (d + 3)) mi_Wires_layoutWithout 66 [some (.ref x0), some (.ref x1), some (.int x2), some (.int x3)] [] S (some (va_rf r.1), r.2) := by
  unfold F_Wires_layoutWithout_66 at h
  refine pE_jump 2 (pc' := 13) (ls' := [some (.ref x0), some (.ref x1), some (.int x2), some (.int (x3 + 1))]) (st' := []) (fun _ => rfl) ?_
  exact hrec13 (x3 + 1) S _ h
def B_Wires_layoutWithout_13 (N : Nat)  (rec13 : Int32 → pm_S → Option (Option Nat × pm_S)) (x0 : Nat) (x1 : Nat) (x2 : Int32) (x3 : Int32) (S : pm_S) : Option (Option Nat × pm_S) :=
    (oR S x1 4 6).bind fun oq5 => match oq5 with
    | none => none
    | some q5 =>
    (F_Ledger_size N S q5).bind fun (v7, S6) =>
    if v7 ≤ x3 then
    F_Wires_layoutWithout_72 N x0 S6
    else
    (if ((x2 >>> (x3 &&& 31)) &&& 1) = 0 then
    ((oR S6 x0 9 0).bind fun oq9 => match oq9 with
    | none => none
    | some q9 =>
    (oR S6 x1 4 6).bind fun oq19 => match oq19 with
    | none => none
    | some q19 =>
    (F_Ledger_at N S6 q19 x3 0).bind fun (v21, S20) =>
    (oR S20 x1 4 6).bind fun oq22 => match oq22 with
    | none => none
    | some q22 =>
    (F_Ledger_at N S20 q22 x3 1).bind fun (v24, S23) =>
    (oR S23 x1 4 6).bind fun oq25 => match oq25 with
    | none => none
    | some q25 =>
    (F_Ledger_at N S23 q25 x3 2).bind fun (v27, S26) =>
    (F_Layout_work N S26 q9 v21 v24 v27).bind fun S28 =>
    F_Wires_layoutWithout_66 N rec13 x0 x1 x2 x3 S28)
    else
    F_Wires_layoutWithout_66 N rec13 x0 x1 x2 x3 S6)
def F_Wires_layoutWithout_13 (N : Nat)  (x0 : Nat) (x1 : Nat) (x2 : Int32) : Nat → Int32 → pm_S → Option (Option Nat × pm_S)
  | 0 => fun _ _ => none
  | n + 1 => fun x3 S => B_Wires_layoutWithout_13 N  (F_Wires_layoutWithout_13 N  x0 x1 x2 n) x0 x1 x2 x3 S
set_option maxHeartbeats 4000000 in
set_option maxRecDepth 20000 in
theorem f_Wires_layoutWithout_13 (sp : pm_I → List Value → pm_S → pm_O → Prop) (d N : Nat)  (x0 : Nat) (x1 : Nat) (x2 : Int32)  : ∀ (n : Nat) (x3 : Int32) (S : pm_S) (r : (Option Nat × pm_S)), F_Wires_layoutWithout_13 N  x0 x1 x2 n x3 S = some r → pmE pG (pm_rel pG sp (d + 3)) mi_Wires_layoutWithout 13 [some (.ref x0), some (.ref x1), some (.int x2), some (.int x3)] [] S (some (va_rf r.1), r.2) := by
  intro n
  induction n with
  | zero =>
    intro x3 S r h
    cases h
  | succ n ih =>
    intro x3 S r h
    replace h : B_Wires_layoutWithout_13 N  (F_Wires_layoutWithout_13 N  x0 x1 x2 n) x0 x1 x2 x3 S = some r := h
    have hrec13 := ih
    generalize F_Wires_layoutWithout_13 N  x0 x1 x2 n = rec13 at h hrec13
    unfold B_Wires_layoutWithout_13 at h
    refine pE_jump 2 (pc' := 15) (ls' := [some (.ref x0), some (.ref x1), some (.int x2), some (.int x3)]) (st' := [.ref x1, .int x3]) (fun _ => rfl) ?_
    obtain ⟨oq5, hq5, h⟩ := obind h
    cases oq5 with
    | none => cases h
    | some q5 =>
      try dsimp only at h
      refine pE_gfS rfl rfl hq5 ?_
      obtain ⟨⟨v7, S6⟩, hv7, h⟩ := obind h
      try dsimp only at h
      refine pE_iv (Bs := []) (st := [.int x3]) 1 rfl (Or.inl ⟨rfl, rfl⟩) rfl rfl (Nat.le_of_ble_eq_true rfl) (Nat.le_of_ble_eq_true rfl) (g_Ledger_size hv7) (f_Ledger_size sp (d + 2) N S q5 _ hv7) ?_
      refine pE_br (v7 ≤ x3) rfl rfl (fun c30 => ?_) (fun c30 => ?_)
      · rw [if_pos c30] at h
        refine pE_weak [some (.ref x0), none, none, none] ⟨rfl, trivial⟩ ?_
        exact f_Wires_layoutWithout_72 sp d N x0 S6 _ h
      · rw [if_neg c30] at h
        refine pE_jump 5 (pc' := 29) (ls' := [some (.ref x0), some (.ref x1), some (.int x2), some (.int x3)]) (st' := [.int ((x2 >>> (x3 &&& 31)) &&& 1)]) (fun _ => rfl) ?_
        refine pE_br (¬ ((x2 >>> (x3 &&& 31)) &&& 1) = 0) rfl rfl (fun c29 => ?_) (fun c29 => ?_)
        · rw [if_neg c29] at h
          exact f_Wires_layoutWithout_66 sp d N rec13 x0 x1 x2 x3 S6 hrec13 _ h
        · have c29 := Decidable.not_not.mp c29
          rw [if_pos c29] at h
          refine pE_jump 1 (pc' := 33) (ls' := [some (.ref x0), some (.ref x1), some (.int x2), some (.int x3)]) (st' := [.ref x0]) (fun _ => rfl) ?_
          obtain ⟨oq9, hq9, h⟩ := obind h
          cases oq9 with
          | none => cases h
          | some q9 =>
            try dsimp only at h
            refine pE_gfS rfl rfl hq9 ?_
            refine pE_jump 1 (pc' := 37) (ls' := [some (.ref x0), some (.ref x1), some (.int x2), some (.int x3)]) (st' := [.ref x1, .ref q9]) (fun _ => rfl) ?_
            obtain ⟨oq19, hq19, h⟩ := obind h
            cases oq19 with
            | none => cases h
            | some q19 =>
              try dsimp only at h
              refine pE_gfS rfl rfl hq19 ?_
              refine pE_jump 2 (pc' := 42) (ls' := [some (.ref x0), some (.ref x1), some (.int x2), some (.int x3)]) (st' := [.int 0, .int x3, .ref q19, .ref q9]) (fun _ => rfl) ?_
              obtain ⟨⟨v21, S20⟩, hv21, h⟩ := obind h
              try dsimp only at h
              refine pE_iv (Bs := [.int x3, .int 0]) (st := [.ref q9]) 1 rfl (Or.inl ⟨rfl, rfl⟩) rfl rfl (Nat.le_of_ble_eq_true rfl) (Nat.le_of_ble_eq_true rfl) (g_Ledger_at hv21) (f_Ledger_at sp (d + 2) N S6 q19 x3 0 _ hv21) ?_
              refine pE_jump 1 (pc' := 46) (ls' := [some (.ref x0), some (.ref x1), some (.int x2), some (.int x3)]) (st' := [.ref x1, .int v21, .ref q9]) (fun _ => rfl) ?_
              obtain ⟨oq22, hq22, h⟩ := obind h
              cases oq22 with
              | none => cases h
              | some q22 =>
                try dsimp only at h
                refine pE_gfS rfl rfl hq22 ?_
                refine pE_jump 2 (pc' := 51) (ls' := [some (.ref x0), some (.ref x1), some (.int x2), some (.int x3)]) (st' := [.int 1, .int x3, .ref q22, .int v21, .ref q9]) (fun _ => rfl) ?_
                obtain ⟨⟨v24, S23⟩, hv24, h⟩ := obind h
                try dsimp only at h
                refine pE_iv (Bs := [.int x3, .int 1]) (st := [.int v21, .ref q9]) 1 rfl (Or.inl ⟨rfl, rfl⟩) rfl rfl (Nat.le_of_ble_eq_true rfl) (Nat.le_of_ble_eq_true rfl) (g_Ledger_at hv24) (f_Ledger_at sp (d + 2) N S20 q22 x3 1 _ hv24) ?_
                refine pE_jump 1 (pc' := 55) (ls' := [some (.ref x0), some (.ref x1), some (.int x2), some (.int x3)]) (st' := [.ref x1, .int v24, .int v21, .ref q9]) (fun _ => rfl) ?_
                obtain ⟨oq25, hq25, h⟩ := obind h
                cases oq25 with
                | none => cases h
                | some q25 =>
                  try dsimp only at h
                  refine pE_gfS rfl rfl hq25 ?_
                  refine pE_jump 2 (pc' := 60) (ls' := [some (.ref x0), some (.ref x1), some (.int x2), some (.int x3)]) (st' := [.int 2, .int x3, .ref q25, .int v24, .int v21, .ref q9]) (fun _ => rfl) ?_
                  obtain ⟨⟨v27, S26⟩, hv27, h⟩ := obind h
                  try dsimp only at h
                  refine pE_iv (Bs := [.int x3, .int 2]) (st := [.int v24, .int v21, .ref q9]) 1 rfl (Or.inl ⟨rfl, rfl⟩) rfl rfl (Nat.le_of_ble_eq_true rfl) (Nat.le_of_ble_eq_true rfl) (g_Ledger_at hv27) (f_Ledger_at sp (d + 2) N S23 q25 x3 2 _ hv27) ?_
                  obtain ⟨S28, hS28, h⟩ := obind h
                  refine pE_iv (Bs := [.int v21, .int v24, .int v27]) (st := []) 1 rfl (Or.inl ⟨rfl, rfl⟩) rfl rfl (Nat.le_of_ble_eq_true rfl) (Nat.le_of_ble_eq_true rfl) (g_Layout_work hS28) (f_Layout_work sp d N S26 q9 v21 v24 v27 _ hS28) ?_
                  exact f_Wires_layoutWithout_66 sp d N rec13 x0 x1 x2 x3 S28 hrec13 _ h
def F_Wires_layoutWithout (N : Nat) (S : pm_S) (a : Nat) (p0 : Nat) (p1 : Int32) : Option (Option Nat × pm_S) :=
    if rcv S a 9 = true then
    ((oR S a 9 0).bind fun oq1 => match oq1 with
    | none => none
    | some q1 =>
    (oR S p0 4 4).bind fun oq3 => match oq3 with
    | none => none
    | some q3 =>
    (F_Layout_copy N S q1 q3).bind fun S4 =>
    F_Wires_layoutWithout_13 N a p0 p1 N 0 S4)
    else none
theorem g_Wires_layoutWithout {N : Nat} {S : pm_S} {a : Nat} {p0 : Nat} {p1 : Int32} {r : (Option Nat × pm_S)} (h : F_Wires_layoutWithout N S a p0 p1 = some r) : rcv S a 9 = true := by
  unfold F_Wires_layoutWithout at h
  by_cases c : rcv S a 9 = true
  · exact c
  · rw [if_neg c] at h; cases h
set_option maxHeartbeats 4000000 in
set_option maxRecDepth 20000 in
theorem f_Wires_layoutWithout (sp : pm_I → List Value → pm_S → pm_O → Prop) (d N : Nat) (S : pm_S) (a : Nat) (p0 : Nat) (p1 : Int32) (r : (Option Nat × pm_S)) (h : F_Wires_layoutWithout N S a p0 p1 = some r) : pm_rel pG sp (d + 4) mi_Wires_layoutWithout [.ref a, .ref p0, .int p1] S (some (va_rf r.1), r.2) := by
  have hg := g_Wires_layoutWithout h
  unfold F_Wires_layoutWithout at h
  rw [if_pos hg] at h
  refine pE_rel (d := d + 3) ?_
  show pmE pG _ mi_Wires_layoutWithout 0 [some (.ref a), some (.ref p0), some (.int p1), none] [] S _
  refine pE_jump 1 (pc' := 1) (ls' := [some (.ref a), some (.ref p0), some (.int p1), none]) (st' := [.ref a]) (fun _ => rfl) ?_
  obtain ⟨oq1, hq1, h⟩ := obind h
  cases oq1 with
  | none => cases h
  | some q1 =>
    try dsimp only at h
    refine pE_gfS rfl rfl hq1 ?_
    refine pE_jump 1 (pc' := 5) (ls' := [some (.ref a), some (.ref p0), some (.int p1), none]) (st' := [.ref p0, .ref q1]) (fun _ => rfl) ?_
    obtain ⟨oq3, hq3, h⟩ := obind h
    cases oq3 with
    | none => cases h
    | some q3 =>
      try dsimp only at h
      refine pE_gfS rfl rfl hq3 ?_
      obtain ⟨S4, hS4, h⟩ := obind h
      refine pE_iv (Bs := [.ref q3]) (st := []) 1 rfl (Or.inl ⟨rfl, rfl⟩) rfl rfl (Nat.le_of_ble_eq_true rfl) (Nat.le_of_ble_eq_true rfl) (g_Layout_copy hS4) (f_Layout_copy sp (d + 2) N S q1 q3 _ hS4) ?_
      refine pE_jump 2 (pc' := 13) (ls' := [some (.ref a), some (.ref p0), some (.int p1), some (.int 0)]) (st' := []) (fun _ => rfl) ?_
      exact f_Wires_layoutWithout_13 sp d N a p0 p1 N 0 S4 _ h
def F_Wires_lay_126 (N : Nat)  (t1 : Nat) (S : pm_S) : Option pm_S :=
    (wF S t1 9 10 (.object "BuriedPairs$Layout") (.null)).bind fun S12 =>
    some S12
set_option maxHeartbeats 4000000 in
set_option maxRecDepth 20000 in
theorem f_Wires_lay_126 (sp : pm_I → List Value → pm_S → pm_O → Prop) (d N : Nat)  (t1 : Nat) (S : pm_S)  (r : pm_S) (h : F_Wires_lay_126 N  t1 S = some r) : pmE pG (pm_rel pG sp (d + 4)) mi_Wires_lay 126 [none, none, none, none, none] [.null, .ref t1] S (none, r) := by
  unfold F_Wires_lay_126 at h
  obtain ⟨S12, hS12, h⟩ := obind h
  refine pE_pf rfl rfl rfl hS12 ?_
  cases h
  exact pE_ret rfl rfl rfl
def F_Wires_lay_126_2 (N : Nat)  (t0 : Nat) (t1 : Nat) (S : pm_S) : Option pm_S :=
    (wF S t1 9 10 (.object "BuriedPairs$Layout") (.ref t0)).bind fun S13 =>
    some S13
set_option maxHeartbeats 4000000 in
set_option maxRecDepth 20000 in
theorem f_Wires_lay_126_2 (sp : pm_I → List Value → pm_S → pm_O → Prop) (d N : Nat)  (t0 : Nat) (t1 : Nat) (S : pm_S)  (r : pm_S) (h : F_Wires_lay_126_2 N  t0 t1 S = some r) : pmE pG (pm_rel pG sp (d + 4)) mi_Wires_lay 126 [none, none, none, none, none] [.ref t0, .ref t1] S (none, r) := by
  unfold F_Wires_lay_126_2 at h
  obtain ⟨S13, hS13, h⟩ := obind h
  refine pE_pf rfl rfl rfl hS13 ?_
  cases h
  exact pE_ret rfl rfl rfl
def F_Wires_lay_108 (N : Nat)  (x0 : Nat) (x1 : Nat) (x3 : Int32) (S : pm_S) : Option pm_S :=
    if x3 = 0 then
    ((oR S x1 4 5).bind fun oq11 => match oq11 with
    | none => F_Wires_lay_126 N x0 S
    | some q11 =>
    F_Wires_lay_126_2 N q11 x0 S)
    else
    ((F_Wires_layoutWithout N S x0 x1 x3).bind fun (oq15, S14) => match oq15 with
    | none => F_Wires_lay_126 N x0 S14
    | some q15 =>
    F_Wires_lay_126_2 N q15 x0 S14)
set_option maxHeartbeats 4000000 in
set_option maxRecDepth 20000 in
theorem f_Wires_lay_108 (sp : pm_I → List Value → pm_S → pm_O → Prop) (d N : Nat)  (x0 : Nat) (x1 : Nat) (x3 : Int32) (S : pm_S)  (r : pm_S) (h : F_Wires_lay_108 N  x0 x1 x3 S = some r) : pmE pG (pm_rel pG sp (d + 4)) mi_Wires_lay 108 [some (.ref x0), some (.ref x1), none, some (.int x3), none] [] S (none, r) := by
  unfold F_Wires_lay_108 at h
  refine pE_jump 2 (pc' := 110) (ls' := [some (.ref x0), some (.ref x1), none, some (.int x3), none]) (st' := [.int x3, .ref x0]) (fun _ => rfl) ?_
  refine pE_br (¬ x3 = 0) rfl rfl (fun c16 => ?_) (fun c16 => ?_)
  · rw [if_neg c16] at h
    refine pE_jump 3 (pc' := 123) (ls' := [some (.ref x0), some (.ref x1), none, some (.int x3), none]) (st' := [.int x3, .ref x1, .ref x0, .ref x0]) (fun _ => rfl) ?_
    obtain ⟨⟨oq15, S14⟩, hq15, h⟩ := obind h
    try dsimp only at h
    cases oq15 with
    | none =>
      try dsimp only at h
      refine pE_iv (Bs := [.ref x1, .int x3]) (st := [.ref x0]) 1 rfl (Or.inl ⟨rfl, rfl⟩) rfl rfl (Nat.le_of_ble_eq_true rfl) (Nat.le_of_ble_eq_true rfl) (g_Wires_layoutWithout hq15) (f_Wires_layoutWithout sp d N S x0 x1 x3 _ hq15) ?_
      refine pE_weak [none, none, none, none, none] trivial ?_
      exact f_Wires_lay_126 sp d N x0 S14 _ h
    | some q15 =>
      try dsimp only at h
      refine pE_iv (Bs := [.ref x1, .int x3]) (st := [.ref x0]) 1 rfl (Or.inl ⟨rfl, rfl⟩) rfl rfl (Nat.le_of_ble_eq_true rfl) (Nat.le_of_ble_eq_true rfl) (g_Wires_layoutWithout hq15) (f_Wires_layoutWithout sp d N S x0 x1 x3 _ hq15) ?_
      refine pE_weak [none, none, none, none, none] trivial ?_
      exact f_Wires_lay_126_2 sp d N q15 x0 S14 _ h
  · have c16 := Decidable.not_not.mp c16
    rw [if_pos c16] at h
    refine pE_jump 1 (pc' := 114) (ls' := [some (.ref x0), some (.ref x1), none, some (.int x3), none]) (st' := [.ref x1, .ref x0]) (fun _ => rfl) ?_
    obtain ⟨oq11, hq11, h⟩ := obind h
    cases oq11 with
    | none =>
      try dsimp only at h
      refine pE_gfN rfl rfl hq11 ?_
      refine pE_jump 1 (pc' := 126) (ls' := [some (.ref x0), some (.ref x1), none, some (.int x3), none]) (st' := [.null, .ref x0]) (fun _ => rfl) ?_
      refine pE_weak [none, none, none, none, none] trivial ?_
      exact f_Wires_lay_126 sp d N x0 S _ h
    | some q11 =>
      try dsimp only at h
      refine pE_gfS rfl rfl hq11 ?_
      refine pE_jump 1 (pc' := 126) (ls' := [some (.ref x0), some (.ref x1), none, some (.int x3), none]) (st' := [.ref q11, .ref x0]) (fun _ => rfl) ?_
      refine pE_weak [none, none, none, none, none] trivial ?_
      exact f_Wires_lay_126_2 sp d N q11 x0 S _ h
def F_Wires_lay_102 (N : Nat) (rec68 : Int32 → Int32 → pm_S → Option pm_S) (x0 : Nat) (x1 : Nat) (x2 : Int32) (x3 : Int32) (x4 : Int32) (S : pm_S) : Option pm_S :=
    rec68 x3 (x4 + 1) S
set_option maxHeartbeats 4000000 in
set_option maxRecDepth 20000 in
theorem f_Wires_lay_102 (sp : pm_I → List Value → pm_S → pm_O → Prop) (d N : Nat) (rec68 : Int32 → Int32 → pm_S → Option pm_S) (x0 : Nat) (x1 : Nat) (x2 : Int32) (x3 : Int32) (x4 : Int32) (S : pm_S) (hrec68 : ∀ (y1 : Int32) (y2 : Int32) (U : pm_S) (r : pm_S), rec68 y1 y2 U = some r → pmE pG (pm_rel pG sp (d + 4)) mi_Wires_lay 68 [some (.ref x0), some (.ref x1), some (.int x2), some (.int y1), some (.int y2)] [] U (none, r)) (r : pm_S) (h : F_Wires_lay_102 N rec68 x0 x1 x2 x3 x4 S = some r) : pmE pG (pm_rel pG sp (d + 4)) mi_Wires_lay 102 [some (.ref x0), some (.ref x1), some (.int x2), some (.int x3), some (.int x4)] [] S (none, r) := by
  unfold F_Wires_lay_102 at h
  refine pE_jump 2 (pc' := 68) (ls' := [some (.ref x0), some (.ref x1), some (.int x2), some (.int x3), some (.int (x4 + 1))]) (st' := []) (fun _ => rfl) ?_
  exact hrec68 x3 (x4 + 1) S _ h
def B_Wires_lay_68 (N : Nat)  (rec68 : Int32 → Int32 → pm_S → Option pm_S) (x0 : Nat) (x1 : Nat) (x2 : Int32) (x3 : Int32) (x4 : Int32) (S : pm_S) : Option pm_S :=
    (oR S x1 4 7).bind fun oq8 => match oq8 with
    | none => none
    | some q8 =>
    (F_Ledger_size N S q8).bind fun (v10, S9) =>
    if v10 ≤ x4 then
    F_Wires_lay_108 N x0 x1 x3 S9
    else
    (if ((x2 >>> (x4 &&& 31)) &&& 1) = 0 then
    F_Wires_lay_102 N rec68 x0 x1 x2 x3 x4 S9
    else
    ((oR S9 x1 4 7).bind fun oq17 => match oq17 with
    | none => none
    | some q17 =>
    (F_Wires_befall N S9 x0 q17 x4).bind fun (v19, S18) =>
    F_Wires_lay_102 N rec68 x0 x1 x2 (x3 ||| v19) x4 S18))
def F_Wires_lay_68 (N : Nat)  (x0 : Nat) (x1 : Nat) (x2 : Int32) : Nat → Int32 → Int32 → pm_S → Option pm_S
  | 0 => fun _ _ _ => none
  | n + 1 => fun x3 x4 S => B_Wires_lay_68 N  (F_Wires_lay_68 N  x0 x1 x2 n) x0 x1 x2 x3 x4 S
set_option maxHeartbeats 4000000 in
set_option maxRecDepth 20000 in
theorem f_Wires_lay_68 (sp : pm_I → List Value → pm_S → pm_O → Prop) (d N : Nat)  (x0 : Nat) (x1 : Nat) (x2 : Int32)  : ∀ (n : Nat) (x3 : Int32) (x4 : Int32) (S : pm_S) (r : pm_S), F_Wires_lay_68 N  x0 x1 x2 n x3 x4 S = some r → pmE pG (pm_rel pG sp (d + 4)) mi_Wires_lay 68 [some (.ref x0), some (.ref x1), some (.int x2), some (.int x3), some (.int x4)] [] S (none, r) := by
  intro n
  induction n with
  | zero =>
    intro x3 x4 S r h
    cases h
  | succ n ih =>
    intro x3 x4 S r h
    replace h : B_Wires_lay_68 N  (F_Wires_lay_68 N  x0 x1 x2 n) x0 x1 x2 x3 x4 S = some r := h
    have hrec68 := ih
    generalize F_Wires_lay_68 N  x0 x1 x2 n = rec68 at h hrec68
    unfold B_Wires_lay_68 at h
    refine pE_jump 2 (pc' := 71) (ls' := [some (.ref x0), some (.ref x1), some (.int x2), some (.int x3), some (.int x4)]) (st' := [.ref x1, .int x4]) (fun _ => rfl) ?_
    obtain ⟨oq8, hq8, h⟩ := obind h
    cases oq8 with
    | none => cases h
    | some q8 =>
      try dsimp only at h
      refine pE_gfS rfl rfl hq8 ?_
      obtain ⟨⟨v10, S9⟩, hv10, h⟩ := obind h
      try dsimp only at h
      refine pE_iv (Bs := []) (st := [.int x4]) 1 rfl (Or.inl ⟨rfl, rfl⟩) rfl rfl (Nat.le_of_ble_eq_true rfl) (Nat.le_of_ble_eq_true rfl) (g_Ledger_size hv10) (f_Ledger_size sp (d + 3) N S q8 _ hv10) ?_
      refine pE_br (v10 ≤ x4) rfl rfl (fun c21 => ?_) (fun c21 => ?_)
      · rw [if_pos c21] at h
        refine pE_weak [some (.ref x0), some (.ref x1), none, some (.int x3), none] ⟨rfl, ⟨rfl, ⟨rfl, trivial⟩⟩⟩ ?_
        exact f_Wires_lay_108 sp d N x0 x1 x3 S9 _ h
      · rw [if_neg c21] at h
        refine pE_jump 5 (pc' := 86) (ls' := [some (.ref x0), some (.ref x1), some (.int x2), some (.int x3), some (.int x4)]) (st' := [.int ((x2 >>> (x4 &&& 31)) &&& 1)]) (fun _ => rfl) ?_
        refine pE_br (((x2 >>> (x4 &&& 31)) &&& 1) = 0) rfl rfl (fun c20 => ?_) (fun c20 => ?_)
        · rw [if_pos c20] at h
          exact f_Wires_lay_102 sp d N rec68 x0 x1 x2 x3 x4 S9 hrec68 _ h
        · rw [if_neg c20] at h
          refine pE_jump 3 (pc' := 92) (ls' := [some (.ref x0), some (.ref x1), some (.int x2), some (.int x3), some (.int x4)]) (st' := [.ref x1, .ref x0, .int x3]) (fun _ => rfl) ?_
          obtain ⟨oq17, hq17, h⟩ := obind h
          cases oq17 with
          | none => cases h
          | some q17 =>
            try dsimp only at h
            refine pE_gfS rfl rfl hq17 ?_
            refine pE_jump 1 (pc' := 97) (ls' := [some (.ref x0), some (.ref x1), some (.int x2), some (.int x3), some (.int x4)]) (st' := [.int x4, .ref q17, .ref x0, .int x3]) (fun _ => rfl) ?_
            obtain ⟨⟨v19, S18⟩, hv19, h⟩ := obind h
            try dsimp only at h
            refine pE_iv (Bs := [.ref q17, .int x4]) (st := [.int x3]) 1 rfl (Or.inl ⟨rfl, rfl⟩) rfl rfl (Nat.le_of_ble_eq_true rfl) (Nat.le_of_ble_eq_true rfl) (g_Wires_befall hv19) (f_Wires_befall sp (d + 1) N S9 x0 q17 x4 _ hv19) ?_
            refine pE_jump 2 (pc' := 102) (ls' := [some (.ref x0), some (.ref x1), some (.int x2), some (.int (x3 ||| v19)), some (.int x4)]) (st' := []) (fun _ => rfl) ?_
            exact f_Wires_lay_102 sp d N rec68 x0 x1 x2 (x3 ||| v19) x4 S18 hrec68 _ h
def F_Wires_lay_63 (N : Nat)  (x0 : Nat) (x1 : Nat) (x2 : Int32) (S : pm_S) : Option pm_S :=
    F_Wires_lay_68 N x0 x1 x2 N 0 0 S
set_option maxHeartbeats 4000000 in
set_option maxRecDepth 20000 in
theorem f_Wires_lay_63 (sp : pm_I → List Value → pm_S → pm_O → Prop) (d N : Nat)  (x0 : Nat) (x1 : Nat) (x2 : Int32) (S : pm_S)  (r : pm_S) (h : F_Wires_lay_63 N  x0 x1 x2 S = some r) : pmE pG (pm_rel pG sp (d + 4)) mi_Wires_lay 63 [some (.ref x0), some (.ref x1), some (.int x2), none, none] [] S (none, r) := by
  unfold F_Wires_lay_63 at h
  refine pE_jump 4 (pc' := 68) (ls' := [some (.ref x0), some (.ref x1), some (.int x2), some (.int 0), some (.int 0)]) (st' := []) (fun _ => rfl) ?_
  exact f_Wires_lay_68 sp d N x0 x1 x2 N 0 0 S _ h
def B_Wires_lay_25 (N : Nat)  (rec25 : Int32 → pm_S → Option pm_S) (x0 : Nat) (x1 : Nat) (x2 : Int32) (x3 : Int32) (S : pm_S) : Option pm_S :=
    (oR S x0 9 1).bind fun oq6 => match oq6 with
    | none => none
    | some q6 =>
    (aNS S q6).bind fun v7 =>
    if v7 ≤ x3 then
    F_Wires_lay_63 N x0 x1 x2 S
    else
    ((oR S x0 9 2).bind fun oq22 => match oq22 with
    | none => none
    | some q22 =>
    (aNS S q22).bind fun v23 =>
    if v23 ≤ x3 then
    F_Wires_lay_63 N x0 x1 x2 S
    else
    ((oR S x0 9 1).bind fun oq24 => match oq24 with
    | none => none
    | some q24 =>
    (sI [0] S q24 x3 x3).bind fun S25 =>
    (oR S25 x0 9 2).bind fun oq26 => match oq26 with
    | none => none
    | some q26 =>
    (sI [0] S25 q26 x3 x3).bind fun S27 =>
    rec25 (x3 + 1) S27))
def F_Wires_lay_25 (N : Nat)  (x0 : Nat) (x1 : Nat) (x2 : Int32) : Nat → Int32 → pm_S → Option pm_S
  | 0 => fun _ _ => none
  | n + 1 => fun x3 S => B_Wires_lay_25 N  (F_Wires_lay_25 N  x0 x1 x2 n) x0 x1 x2 x3 S
set_option maxHeartbeats 4000000 in
set_option maxRecDepth 20000 in
theorem f_Wires_lay_25 (sp : pm_I → List Value → pm_S → pm_O → Prop) (d N : Nat)  (x0 : Nat) (x1 : Nat) (x2 : Int32)  : ∀ (n : Nat) (x3 : Int32) (S : pm_S) (r : pm_S), F_Wires_lay_25 N  x0 x1 x2 n x3 S = some r → pmE pG (pm_rel pG sp (d + 4)) mi_Wires_lay 25 [some (.ref x0), some (.ref x1), some (.int x2), some (.int x3), none] [] S (none, r) := by
  intro n
  induction n with
  | zero =>
    intro x3 S r h
    cases h
  | succ n ih =>
    intro x3 S r h
    replace h : B_Wires_lay_25 N  (F_Wires_lay_25 N  x0 x1 x2 n) x0 x1 x2 x3 S = some r := h
    have hrec25 := ih
    generalize F_Wires_lay_25 N  x0 x1 x2 n = rec25 at h hrec25
    unfold B_Wires_lay_25 at h
    refine pE_jump 2 (pc' := 27) (ls' := [some (.ref x0), some (.ref x1), some (.int x2), some (.int x3), none]) (st' := [.ref x0, .int x3]) (fun _ => rfl) ?_
    obtain ⟨oq6, hq6, h⟩ := obind h
    cases oq6 with
    | none => cases h
    | some q6 =>
      try dsimp only at h
      refine pE_gfS rfl rfl hq6 ?_
      obtain ⟨v7, hv7, h⟩ := obind h
      refine pE_aN rfl hv7 ?_
      refine pE_br (v7 ≤ x3) rfl rfl (fun c29 => ?_) (fun c29 => ?_)
      · rw [if_pos c29] at h
        refine pE_weak [some (.ref x0), some (.ref x1), some (.int x2), none, none] ⟨rfl, ⟨rfl, ⟨rfl, trivial⟩⟩⟩ ?_
        exact f_Wires_lay_63 sp d N x0 x1 x2 S _ h
      · rw [if_neg c29] at h
        refine pE_jump 2 (pc' := 36) (ls' := [some (.ref x0), some (.ref x1), some (.int x2), some (.int x3), none]) (st' := [.ref x0, .int x3]) (fun _ => rfl) ?_
        obtain ⟨oq22, hq22, h⟩ := obind h
        cases oq22 with
        | none => cases h
        | some q22 =>
          try dsimp only at h
          refine pE_gfS rfl rfl hq22 ?_
          obtain ⟨v23, hv23, h⟩ := obind h
          refine pE_aN rfl hv23 ?_
          refine pE_br (v23 ≤ x3) rfl rfl (fun c28 => ?_) (fun c28 => ?_)
          · rw [if_pos c28] at h
            refine pE_weak [some (.ref x0), some (.ref x1), some (.int x2), none, none] ⟨rfl, ⟨rfl, ⟨rfl, trivial⟩⟩⟩ ?_
            exact f_Wires_lay_63 sp d N x0 x1 x2 S _ h
          · rw [if_neg c28] at h
            refine pE_jump 1 (pc' := 44) (ls' := [some (.ref x0), some (.ref x1), some (.int x2), some (.int x3), none]) (st' := [.ref x0]) (fun _ => rfl) ?_
            obtain ⟨oq24, hq24, h⟩ := obind h
            cases oq24 with
            | none => cases h
            | some q24 =>
              try dsimp only at h
              refine pE_gfS rfl rfl hq24 ?_
              refine pE_jump 2 (pc' := 49) (ls' := [some (.ref x0), some (.ref x1), some (.int x2), some (.int x3), none]) (st' := [.int x3, .int x3, .ref q24]) (fun _ => rfl) ?_
              obtain ⟨S25, hS25, h⟩ := obind h
              refine pE_sI rfl rfl hS25 ?_
              refine pE_jump 1 (pc' := 51) (ls' := [some (.ref x0), some (.ref x1), some (.int x2), some (.int x3), none]) (st' := [.ref x0]) (fun _ => rfl) ?_
              obtain ⟨oq26, hq26, h⟩ := obind h
              cases oq26 with
              | none => cases h
              | some q26 =>
                try dsimp only at h
                refine pE_gfS rfl rfl hq26 ?_
                refine pE_jump 2 (pc' := 56) (ls' := [some (.ref x0), some (.ref x1), some (.int x2), some (.int x3), none]) (st' := [.int x3, .int x3, .ref q26]) (fun _ => rfl) ?_
                obtain ⟨S27, hS27, h⟩ := obind h
                refine pE_sI rfl rfl hS27 ?_
                refine pE_jump 2 (pc' := 25) (ls' := [some (.ref x0), some (.ref x1), some (.int x2), some (.int (x3 + 1)), none]) (st' := []) (fun _ => rfl) ?_
                exact hrec25 (x3 + 1) S27 _ h
def F_Wires_lay (N : Nat) (S : pm_S) (a : Nat) (p0 : Nat) (p1 : Int32) : Option pm_S :=
    if rcv S a 9 = true then
    ((wF S a 9 9 (.object "BuriedPairs$Plan") (.ref p0)).bind fun S1 =>
    (wF S1 a 9 11 .int (.int 0)).bind fun S2 =>
    (wF S2 a 9 12 .int (.int 0)).bind fun S3 =>
    (oR S3 a 9 3).bind fun oq4 => match oq4 with
    | none => none
    | some q4 =>
    (F_Arr_fill N S3 q4 0).bind fun S5 =>
    F_Wires_lay_25 N a p0 p1 N 0 S5)
    else none
theorem g_Wires_lay {N : Nat} {S : pm_S} {a : Nat} {p0 : Nat} {p1 : Int32} {r : pm_S} (h : F_Wires_lay N S a p0 p1 = some r) : rcv S a 9 = true := by
  unfold F_Wires_lay at h
  by_cases c : rcv S a 9 = true
  · exact c
  · rw [if_neg c] at h; cases h
set_option maxHeartbeats 4000000 in
set_option maxRecDepth 20000 in
theorem f_Wires_lay (sp : pm_I → List Value → pm_S → pm_O → Prop) (d N : Nat) (S : pm_S) (a : Nat) (p0 : Nat) (p1 : Int32) (r : pm_S) (h : F_Wires_lay N S a p0 p1 = some r) : pm_rel pG sp (d + 5) mi_Wires_lay [.ref a, .ref p0, .int p1] S (none, r) := by
  have hg := g_Wires_lay h
  unfold F_Wires_lay at h
  rw [if_pos hg] at h
  refine pE_rel (d := d + 4) ?_
  show pmE pG _ mi_Wires_lay 0 [some (.ref a), some (.ref p0), some (.int p1), none, none] [] S _
  refine pE_jump 2 (pc' := 2) (ls' := [some (.ref a), some (.ref p0), some (.int p1), none, none]) (st' := [.ref p0, .ref a]) (fun _ => rfl) ?_
  obtain ⟨S1, hS1, h⟩ := obind h
  refine pE_pf rfl rfl rfl hS1 ?_
  refine pE_jump 2 (pc' := 7) (ls' := [some (.ref a), some (.ref p0), some (.int p1), none, none]) (st' := [.int 0, .ref a]) (fun _ => rfl) ?_
  obtain ⟨S2, hS2, h⟩ := obind h
  refine pE_pf rfl rfl rfl hS2 ?_
  refine pE_jump 2 (pc' := 12) (ls' := [some (.ref a), some (.ref p0), some (.int p1), none, none]) (st' := [.int 0, .ref a]) (fun _ => rfl) ?_
  obtain ⟨S3, hS3, h⟩ := obind h
  refine pE_pf rfl rfl rfl hS3 ?_
  refine pE_jump 1 (pc' := 16) (ls' := [some (.ref a), some (.ref p0), some (.int p1), none, none]) (st' := [.ref a]) (fun _ => rfl) ?_
  obtain ⟨oq4, hq4, h⟩ := obind h
  cases oq4 with
  | none => cases h
  | some q4 =>
    try dsimp only at h
    refine pE_gfS rfl rfl hq4 ?_
    refine pE_jump 1 (pc' := 20) (ls' := [some (.ref a), some (.ref p0), some (.int p1), none, none]) (st' := [.int 0, .ref q4]) (fun _ => rfl) ?_
    obtain ⟨S5, hS5, h⟩ := obind h
    refine pE_is (Bs := [.ref q4, .int 0]) (st := []) rfl rfl rfl (Nat.le_of_ble_eq_true rfl) (Nat.le_of_ble_eq_true rfl) (f_Arr_fill sp (d + 3) N S3 q4 0 _ hS5) ?_
    refine pE_jump 2 (pc' := 25) (ls' := [some (.ref a), some (.ref p0), some (.int p1), some (.int 0), none]) (st' := []) (fun _ => rfl) ?_
    exact f_Wires_lay_25 sp d N a p0 p1 N 0 S5 _ h
