def F_M_readPlan_185 (N : Nat)   (S : pm_S) : Option (Int32 × pm_S) :=
    some (0, S)
set_option maxHeartbeats 4000000 in
set_option maxRecDepth 20000 in
theorem f_M_readPlan_185 (sp : pm_I → List Value → pm_S → pm_O → Prop) (d N : Nat)   (S : pm_S)  (r : (Int32 × pm_S)) (h : F_M_readPlan_185 N   S = some r) : pmE pG (pm_rel pG sp (d + 4)) mi_M_readPlan 185 [none, none, none, none] [] S (some (.int r.1), r.2) := by
  unfold F_M_readPlan_185 at h
  refine pE_jump 1 (pc' := 186) (ls' := [none, none, none, none]) (st' := [.int 0]) (fun _ => rfl) ?_
  cases h
  exact pE_ret rfl rfl rfl
def F_M_readPlan_180 (N : Nat) (rec89 : pm_S → Option (Int32 × pm_S)) (x0 : Nat) (x1 : Int32) (t0 : Int32) (S : pm_S) : Option (Int32 × pm_S) :=
    if t0 = 0 then
    F_M_readPlan_185 N S
    else
    rec89 S
set_option maxHeartbeats 4000000 in
set_option maxRecDepth 20000 in
theorem f_M_readPlan_180 (sp : pm_I → List Value → pm_S → pm_O → Prop) (d N : Nat) (rec89 : pm_S → Option (Int32 × pm_S)) (x0 : Nat) (x1 : Int32) (t0 : Int32) (S : pm_S) (hrec89 : ∀  (U : pm_S) (r : (Int32 × pm_S)), rec89 U = some r → pmE pG (pm_rel pG sp (d + 4)) mi_M_readPlan 89 [some (.ref x0), some (.int x1), none, none] [] U (some (.int r.1), r.2)) (r : (Int32 × pm_S)) (h : F_M_readPlan_180 N rec89 x0 x1 t0 S = some r) : pmE pG (pm_rel pG sp (d + 4)) mi_M_readPlan 180 [some (.ref x0), some (.int x1), none, none] [.int t0] S (some (.int r.1), r.2) := by
  unfold F_M_readPlan_180 at h
  refine pE_jump 2 (pc' := 182) (ls' := [some (.ref x0), some (.int x1), none, some (.int t0)]) (st' := [.int t0]) (fun _ => rfl) ?_
  refine pE_br (¬ t0 = 0) rfl rfl (fun c30 => ?_) (fun c30 => ?_)
  · rw [if_neg c30] at h
    refine pE_jump 1 (pc' := 89) (ls' := [some (.ref x0), some (.int x1), none, some (.int t0)]) (st' := []) (fun _ => rfl) ?_
    refine pE_weak [some (.ref x0), some (.int x1), none, none] ⟨rfl, ⟨rfl, trivial⟩⟩ ?_
    exact hrec89 S _ h
  · have c30 := Decidable.not_not.mp c30
    rw [if_pos c30] at h
    refine pE_weak [none, none, none, none] trivial ?_
    exact f_M_readPlan_185 sp d N S _ h
def F_M_readPlan_177 (N : Nat) (rec89 : pm_S → Option (Int32 × pm_S)) (x0 : Nat) (x1 : Int32) (t0 : Int32) (t1 : Int32) (t2 : Nat) (S : pm_S) : Option (Int32 × pm_S) :=
    (F_M_readTold N S t2 t1 t0).bind fun (v32, S31) =>
    F_M_readPlan_180 N rec89 x0 x1 v32 S31
set_option maxHeartbeats 4000000 in
set_option maxRecDepth 20000 in
theorem f_M_readPlan_177 (sp : pm_I → List Value → pm_S → pm_O → Prop) (d N : Nat) (rec89 : pm_S → Option (Int32 × pm_S)) (x0 : Nat) (x1 : Int32) (t0 : Int32) (t1 : Int32) (t2 : Nat) (S : pm_S) (hrec89 : ∀  (U : pm_S) (r : (Int32 × pm_S)), rec89 U = some r → pmE pG (pm_rel pG sp (d + 4)) mi_M_readPlan 89 [some (.ref x0), some (.int x1), none, none] [] U (some (.int r.1), r.2)) (r : (Int32 × pm_S)) (h : F_M_readPlan_177 N rec89 x0 x1 t0 t1 t2 S = some r) : pmE pG (pm_rel pG sp (d + 4)) mi_M_readPlan 177 [some (.ref x0), some (.int x1), none, none] [.int t0, .int t1, .ref t2] S (some (.int r.1), r.2) := by
  unfold F_M_readPlan_177 at h
  obtain ⟨⟨v32, S31⟩, hv32, h⟩ := obind h
  try dsimp only at h
  refine pE_iv (Bs := [.int t1, .int t0]) (st := []) 1 rfl (Or.inl ⟨rfl, rfl⟩) rfl rfl (Nat.le_of_ble_eq_true rfl) (Nat.le_of_ble_eq_true rfl) (g_M_readTold hv32) (f_M_readTold sp d N S t2 t1 t0 _ hv32) ?_
  exact f_M_readPlan_180 sp d N rec89 x0 x1 v32 S31 hrec89 _ h
def F_M_readPlan_140 (N : Nat) (rec89 : pm_S → Option (Int32 × pm_S)) (x0 : Nat) (x1 : Int32) (x2 : Int32) (S : pm_S) : Option (Int32 × pm_S) :=
    (oI S x0 11 3).bind fun v26 =>
    (wF S x0 11 3 .int (.int (v26 + 1))).bind fun S27 =>
    if x2 = 99 then
    ((F_M_readCable N S27 x0 x1).bind fun (v29, S28) =>
    F_M_readPlan_180 N rec89 x0 x1 v29 S28)
    else
    (if x2 = 106 then
    F_M_readPlan_177 N rec89 x0 x1 0 x1 x0 S27
    else
    F_M_readPlan_177 N rec89 x0 x1 1 x1 x0 S27)
set_option maxHeartbeats 4000000 in
set_option maxRecDepth 20000 in
theorem f_M_readPlan_140 (sp : pm_I → List Value → pm_S → pm_O → Prop) (d N : Nat) (rec89 : pm_S → Option (Int32 × pm_S)) (x0 : Nat) (x1 : Int32) (x2 : Int32) (S : pm_S) (hrec89 : ∀  (U : pm_S) (r : (Int32 × pm_S)), rec89 U = some r → pmE pG (pm_rel pG sp (d + 4)) mi_M_readPlan 89 [some (.ref x0), some (.int x1), none, none] [] U (some (.int r.1), r.2)) (r : (Int32 × pm_S)) (h : F_M_readPlan_140 N rec89 x0 x1 x2 S = some r) : pmE pG (pm_rel pG sp (d + 4)) mi_M_readPlan 140 [some (.ref x0), some (.int x1), some (.int x2), none] [] S (some (.int r.1), r.2) := by
  unfold F_M_readPlan_140 at h
  refine pE_jump 2 (pc' := 142) (ls' := [some (.ref x0), some (.int x1), some (.int x2), none]) (st' := [.ref x0, .ref x0]) (fun _ => rfl) ?_
  obtain ⟨v26, hv26, h⟩ := obind h
  refine pE_gfI rfl rfl hv26 ?_
  refine pE_jump 2 (pc' := 147) (ls' := [some (.ref x0), some (.int x1), some (.int x2), none]) (st' := [.int (v26 + 1), .ref x0]) (fun _ => rfl) ?_
  obtain ⟨S27, hS27, h⟩ := obind h
  refine pE_pf rfl rfl rfl hS27 ?_
  refine pE_jump 2 (pc' := 153) (ls' := [some (.ref x0), some (.int x1), some (.int x2), none]) (st' := [.int 99, .int x2]) (fun _ => rfl) ?_
  refine pE_br (¬ x2 = 99) rfl rfl (fun c34 => ?_) (fun c34 => ?_)
  · rw [if_neg c34] at h
    refine pE_jump 4 (pc' := 169) (ls' := [some (.ref x0), some (.int x1), some (.int x2), none]) (st' := [.int 106, .int x2, .int x1, .ref x0]) (fun _ => rfl) ?_
    refine pE_br (¬ x2 = 106) rfl rfl (fun c33 => ?_) (fun c33 => ?_)
    · rw [if_neg c33] at h
      refine pE_jump 1 (pc' := 177) (ls' := [some (.ref x0), some (.int x1), some (.int x2), none]) (st' := [.int 1, .int x1, .ref x0]) (fun _ => rfl) ?_
      refine pE_weak [some (.ref x0), some (.int x1), none, none] ⟨rfl, ⟨rfl, trivial⟩⟩ ?_
      exact f_M_readPlan_177 sp d N rec89 x0 x1 1 x1 x0 S27 hrec89 _ h
    · have c33 := Decidable.not_not.mp c33
      rw [if_pos c33] at h
      refine pE_jump 2 (pc' := 177) (ls' := [some (.ref x0), some (.int x1), some (.int x2), none]) (st' := [.int 0, .int x1, .ref x0]) (fun _ => rfl) ?_
      refine pE_weak [some (.ref x0), some (.int x1), none, none] ⟨rfl, ⟨rfl, trivial⟩⟩ ?_
      exact f_M_readPlan_177 sp d N rec89 x0 x1 0 x1 x0 S27 hrec89 _ h
  · have c34 := Decidable.not_not.mp c34
    rw [if_pos c34] at h
    refine pE_jump 2 (pc' := 158) (ls' := [some (.ref x0), some (.int x1), some (.int x2), none]) (st' := [.int x1, .ref x0]) (fun _ => rfl) ?_
    obtain ⟨⟨v29, S28⟩, hv29, h⟩ := obind h
    try dsimp only at h
    refine pE_iv (Bs := [.int x1]) (st := []) 1 rfl (Or.inl ⟨rfl, rfl⟩) rfl rfl (Nat.le_of_ble_eq_true rfl) (Nat.le_of_ble_eq_true rfl) (g_M_readCable hv29) (f_M_readCable sp d N S27 x0 x1 _ hv29) ?_
    refine pE_jump 1 (pc' := 180) (ls' := [some (.ref x0), some (.int x1), some (.int x2), none]) (st' := [.int v29]) (fun _ => rfl) ?_
    refine pE_weak [some (.ref x0), some (.int x1), none, none] ⟨rfl, ⟨rfl, trivial⟩⟩ ?_
    exact f_M_readPlan_180 sp d N rec89 x0 x1 v29 S28 hrec89 _ h
def F_M_readPlan_131 (N : Nat)  (x0 : Nat) (S : pm_S) : Option (Int32 × pm_S) :=
    (oI S x0 11 3).bind fun v35 =>
    (F_M_fails N S x0 v35).bind fun (v37, S36) =>
    if v37 = 0 ∨ v37 = 1 then some (v37, S36) else none
set_option maxHeartbeats 4000000 in
set_option maxRecDepth 20000 in
theorem f_M_readPlan_131 (sp : pm_I → List Value → pm_S → pm_O → Prop) (d N : Nat)  (x0 : Nat) (S : pm_S)  (r : (Int32 × pm_S)) (h : F_M_readPlan_131 N  x0 S = some r) : pmE pG (pm_rel pG sp (d + 4)) mi_M_readPlan 131 [some (.ref x0), none, none, none] [] S (some (.int r.1), r.2) := by
  unfold F_M_readPlan_131 at h
  refine pE_jump 2 (pc' := 133) (ls' := [some (.ref x0), none, none, none]) (st' := [.ref x0, .ref x0]) (fun _ => rfl) ?_
  obtain ⟨v35, hv35, h⟩ := obind h
  refine pE_gfI rfl rfl hv35 ?_
  obtain ⟨⟨v37, S36⟩, hv37, h⟩ := obind h
  try dsimp only at h
  refine pE_iv (Bs := [.int v35]) (st := []) 1 rfl (Or.inl ⟨rfl, rfl⟩) rfl rfl (Nat.le_of_ble_eq_true rfl) (Nat.le_of_ble_eq_true rfl) (g_M_fails hv37) (f_M_fails sp (d + 3) N S x0 v35 _ hv37) ?_
  by_cases c38 : v37 = 0 ∨ v37 = 1
  · rw [if_pos c38] at h
    cases h
    exact pE_ret rfl (if_pos c38) rfl
  · rw [if_neg c38] at h
    cases h
def F_M_readPlan_217 (N : Nat)  (t0 : Int32) (S : pm_S) : Option (Int32 × pm_S) :=
    if t0 = 0 ∨ t0 = 1 then some (t0, S) else none
set_option maxHeartbeats 4000000 in
set_option maxRecDepth 20000 in
theorem f_M_readPlan_217 (sp : pm_I → List Value → pm_S → pm_O → Prop) (d N : Nat)  (t0 : Int32) (S : pm_S)  (r : (Int32 × pm_S)) (h : F_M_readPlan_217 N  t0 S = some r) : pmE pG (pm_rel pG sp (d + 4)) mi_M_readPlan 217 [none, none, none, none] [.int t0] S (some (.int r.1), r.2) := by
  unfold F_M_readPlan_217 at h
  by_cases c44 : t0 = 0 ∨ t0 = 1
  · rw [if_pos c44] at h
    cases h
    exact pE_ret rfl (if_pos c44) rfl
  · rw [if_neg c44] at h
    cases h
def F_M_readPlan_212 (N : Nat)   (S : pm_S) : Option (Int32 × pm_S) :=
    F_M_readPlan_217 N 1 S
set_option maxHeartbeats 4000000 in
set_option maxRecDepth 20000 in
theorem f_M_readPlan_212 (sp : pm_I → List Value → pm_S → pm_O → Prop) (d N : Nat)   (S : pm_S)  (r : (Int32 × pm_S)) (h : F_M_readPlan_212 N   S = some r) : pmE pG (pm_rel pG sp (d + 4)) mi_M_readPlan 212 [none, none, none, none] [] S (some (.int r.1), r.2) := by
  unfold F_M_readPlan_212 at h
  refine pE_jump 2 (pc' := 217) (ls' := [none, none, none, none]) (st' := [.int 1]) (fun _ => rfl) ?_
  exact f_M_readPlan_217 sp d N 1 S _ h
def F_M_readPlan_190 (N : Nat)  (x0 : Nat) (S : pm_S) : Option (Int32 × pm_S) :=
    (oI S x0 11 3).bind fun v42 =>
    (oI S x0 11 2).bind fun v43 =>
    if v42 = v43 then
    F_M_readPlan_212 N S
    else
    ((oI S x0 11 3).bind fun v45 =>
    (F_M_fails N S x0 v45).bind fun (v47, S46) =>
    if v47 = 0 then
    F_M_readPlan_217 N 0 S46
    else
    F_M_readPlan_212 N S46)
set_option maxHeartbeats 4000000 in
set_option maxRecDepth 20000 in
theorem f_M_readPlan_190 (sp : pm_I → List Value → pm_S → pm_O → Prop) (d N : Nat)  (x0 : Nat) (S : pm_S)  (r : (Int32 × pm_S)) (h : F_M_readPlan_190 N  x0 S = some r) : pmE pG (pm_rel pG sp (d + 4)) mi_M_readPlan 190 [some (.ref x0), none, none, none] [] S (some (.int r.1), r.2) := by
  unfold F_M_readPlan_190 at h
  refine pE_jump 1 (pc' := 191) (ls' := [some (.ref x0), none, none, none]) (st' := [.ref x0]) (fun _ => rfl) ?_
  obtain ⟨v42, hv42, h⟩ := obind h
  refine pE_gfI rfl rfl hv42 ?_
  refine pE_jump 1 (pc' := 195) (ls' := [some (.ref x0), none, none, none]) (st' := [.ref x0, .int v42]) (fun _ => rfl) ?_
  obtain ⟨v43, hv43, h⟩ := obind h
  refine pE_gfI rfl rfl hv43 ?_
  refine pE_br (v42 = v43) rfl rfl (fun c49 => ?_) (fun c49 => ?_)
  · rw [if_pos c49] at h
    refine pE_weak [none, none, none, none] trivial ?_
    exact f_M_readPlan_212 sp d N S _ h
  · rw [if_neg c49] at h
    refine pE_jump 2 (pc' := 203) (ls' := [some (.ref x0), none, none, none]) (st' := [.ref x0, .ref x0]) (fun _ => rfl) ?_
    obtain ⟨v45, hv45, h⟩ := obind h
    refine pE_gfI rfl rfl hv45 ?_
    obtain ⟨⟨v47, S46⟩, hv47, h⟩ := obind h
    try dsimp only at h
    refine pE_iv (Bs := [.int v45]) (st := []) 1 rfl (Or.inl ⟨rfl, rfl⟩) rfl rfl (Nat.le_of_ble_eq_true rfl) (Nat.le_of_ble_eq_true rfl) (g_M_fails hv47) (f_M_fails sp (d + 3) N S x0 v45 _ hv47) ?_
    refine pE_br (v47 = 0) rfl rfl (fun c48 => ?_) (fun c48 => ?_)
    · rw [if_pos c48] at h
      refine pE_jump 1 (pc' := 217) (ls' := [some (.ref x0), none, none, none]) (st' := [.int 0]) (fun _ => rfl) ?_
      refine pE_weak [none, none, none, none] trivial ?_
      exact f_M_readPlan_217 sp d N 0 S46 _ h
    · rw [if_neg c48] at h
      refine pE_weak [none, none, none, none] trivial ?_
      exact f_M_readPlan_212 sp d N S46 _ h
def B_M_readPlan_89 (N : Nat)  (rec89 : pm_S → Option (Int32 × pm_S)) (x0 : Nat) (x1 : Int32)  (S : pm_S) : Option (Int32 × pm_S) :=
    (F_M_look N S x0).bind fun (v21, S20) =>
    if v21 = 59 then
    ((oI S20 x0 11 3).bind fun v22 =>
    (wF S20 x0 11 3 .int (.int (v22 + 1))).bind fun S23 =>
    (F_M_look N S23 x0).bind fun (v25, S24) =>
    if v25 = 99 then
    F_M_readPlan_140 N rec89 x0 x1 v25 S24
    else
    (if v25 = 106 then
    F_M_readPlan_140 N rec89 x0 x1 v25 S24
    else
    (if v25 = 104 then
    F_M_readPlan_140 N rec89 x0 x1 v25 S24
    else
    F_M_readPlan_131 N x0 S24)))
    else
    F_M_readPlan_190 N x0 S20
def F_M_readPlan_89 (N : Nat)  (x0 : Nat) (x1 : Int32) : Nat → pm_S → Option (Int32 × pm_S)
  | 0 => fun _ => none
  | n + 1 => fun  S => B_M_readPlan_89 N  (F_M_readPlan_89 N  x0 x1 n) x0 x1  S
set_option maxHeartbeats 4000000 in
set_option maxRecDepth 20000 in
theorem f_M_readPlan_89 (sp : pm_I → List Value → pm_S → pm_O → Prop) (d N : Nat)  (x0 : Nat) (x1 : Int32)  : ∀ (n : Nat)  (S : pm_S) (r : (Int32 × pm_S)), F_M_readPlan_89 N  x0 x1 n  S = some r → pmE pG (pm_rel pG sp (d + 4)) mi_M_readPlan 89 [some (.ref x0), some (.int x1), none, none] [] S (some (.int r.1), r.2) := by
  intro n
  induction n with
  | zero =>
    intro  S r h
    cases h
  | succ n ih =>
    intro  S r h
    replace h : B_M_readPlan_89 N  (F_M_readPlan_89 N  x0 x1 n) x0 x1  S = some r := h
    have hrec89 := ih
    generalize F_M_readPlan_89 N  x0 x1 n = rec89 at h hrec89
    unfold B_M_readPlan_89 at h
    refine pE_jump 1 (pc' := 90) (ls' := [some (.ref x0), some (.int x1), none, none]) (st' := [.ref x0]) (fun _ => rfl) ?_
    obtain ⟨⟨v21, S20⟩, hv21, h⟩ := obind h
    try dsimp only at h
    refine pE_iv (Bs := []) (st := []) 1 rfl (Or.inl ⟨rfl, rfl⟩) rfl rfl (Nat.le_of_ble_eq_true rfl) (Nat.le_of_ble_eq_true rfl) (g_M_look hv21) (f_M_look sp (d + 2) N S x0 _ hv21) ?_
    refine pE_jump 1 (pc' := 95) (ls' := [some (.ref x0), some (.int x1), none, none]) (st' := [.int 59, .int v21]) (fun _ => rfl) ?_
    refine pE_br (¬ v21 = 59) rfl rfl (fun c50 => ?_) (fun c50 => ?_)
    · rw [if_neg c50] at h
      refine pE_weak [some (.ref x0), none, none, none] ⟨rfl, trivial⟩ ?_
      exact f_M_readPlan_190 sp d N x0 S20 _ h
    · have c50 := Decidable.not_not.mp c50
      rw [if_pos c50] at h
      refine pE_jump 2 (pc' := 100) (ls' := [some (.ref x0), some (.int x1), none, none]) (st' := [.ref x0, .ref x0]) (fun _ => rfl) ?_
      obtain ⟨v22, hv22, h⟩ := obind h
      refine pE_gfI rfl rfl hv22 ?_
      refine pE_jump 2 (pc' := 105) (ls' := [some (.ref x0), some (.int x1), none, none]) (st' := [.int (v22 + 1), .ref x0]) (fun _ => rfl) ?_
      obtain ⟨S23, hS23, h⟩ := obind h
      refine pE_pf rfl rfl rfl hS23 ?_
      refine pE_jump 1 (pc' := 109) (ls' := [some (.ref x0), some (.int x1), none, none]) (st' := [.ref x0]) (fun _ => rfl) ?_
      obtain ⟨⟨v25, S24⟩, hv25, h⟩ := obind h
      try dsimp only at h
      refine pE_iv (Bs := []) (st := []) 1 rfl (Or.inl ⟨rfl, rfl⟩) rfl rfl (Nat.le_of_ble_eq_true rfl) (Nat.le_of_ble_eq_true rfl) (g_M_look hv25) (f_M_look sp (d + 2) N S23 x0 _ hv25) ?_
      refine pE_jump 3 (pc' := 116) (ls' := [some (.ref x0), some (.int x1), some (.int v25), none]) (st' := [.int 99, .int v25]) (fun _ => rfl) ?_
      refine pE_br (v25 = 99) rfl rfl (fun c41 => ?_) (fun c41 => ?_)
      · rw [if_pos c41] at h
        exact f_M_readPlan_140 sp d N rec89 x0 x1 v25 S24 hrec89 _ h
      · rw [if_neg c41] at h
        refine pE_jump 2 (pc' := 122) (ls' := [some (.ref x0), some (.int x1), some (.int v25), none]) (st' := [.int 106, .int v25]) (fun _ => rfl) ?_
        refine pE_br (v25 = 106) rfl rfl (fun c40 => ?_) (fun c40 => ?_)
        · rw [if_pos c40] at h
          exact f_M_readPlan_140 sp d N rec89 x0 x1 v25 S24 hrec89 _ h
        · rw [if_neg c40] at h
          refine pE_jump 2 (pc' := 128) (ls' := [some (.ref x0), some (.int x1), some (.int v25), none]) (st' := [.int 104, .int v25]) (fun _ => rfl) ?_
          refine pE_br (v25 = 104) rfl rfl (fun c39 => ?_) (fun c39 => ?_)
          · rw [if_pos c39] at h
            exact f_M_readPlan_140 sp d N rec89 x0 x1 v25 S24 hrec89 _ h
          · rw [if_neg c39] at h
            refine pE_weak [some (.ref x0), none, none, none] ⟨rfl, trivial⟩ ?_
            exact f_M_readPlan_131 sp d N x0 S24 _ h
def F_M_readPlan (N : Nat) (S : pm_S) (a : Nat) : Option (Int32 × pm_S) :=
    if rcv S a 11 = true then
    ((oI S a 11 19).bind fun v1 =>
    (wF S a 11 3 .int (.int 0)).bind fun S2 =>
    (wF S2 a 11 4 .int (.int (-1))).bind fun S3 =>
    (oR S3 a 11 7).bind fun oq4 => match oq4 with
    | none => none
    | some q4 =>
    (sI [0] S3 q4 v1 0).bind fun S5 =>
    (oR S5 a 11 12).bind fun oq6 => match oq6 with
    | none => none
    | some q6 =>
    (sI [0] S5 q6 v1 0).bind fun S7 =>
    (oR S7 a 11 18).bind fun oq8 => match oq8 with
    | none => none
    | some q8 =>
    (sI [0] S7 q8 v1 0).bind fun S9 =>
    (F_M_look N S9 a).bind fun (v11, S10) =>
    if v11 = 98 then
    ((oI S10 a 11 3).bind fun v12 =>
    (wF S10 a 11 3 .int (.int (v12 + 1))).bind fun S13 =>
    (F_M_number N S13 a 2 8 0 v1 0).bind fun (v15, S14) =>
    if v15 = 0 then
    some (0, S14)
    else
    ((oR S14 a 11 6).bind fun oq16 => match oq16 with
    | none => none
    | some q16 =>
    (oI S14 a 11 5).bind fun v18 =>
    (sI [0] S14 q16 v1 v18).bind fun S19 =>
    F_M_readPlan_89 N a v1 N S19))
    else
    ((oI S10 a 11 3).bind fun v52 =>
    (F_M_fails N S10 a v52).bind fun (v54, S53) =>
    if v54 = 0 ∨ v54 = 1 then some (v54, S53) else none))
    else none
theorem g_M_readPlan {N : Nat} {S : pm_S} {a : Nat} {r : (Int32 × pm_S)} (h : F_M_readPlan N S a = some r) : rcv S a 11 = true := by
  unfold F_M_readPlan at h
  by_cases c : rcv S a 11 = true
  · exact c
  · rw [if_neg c] at h; cases h
set_option maxHeartbeats 4000000 in
set_option maxRecDepth 20000 in
theorem f_M_readPlan (sp : pm_I → List Value → pm_S → pm_O → Prop) (d N : Nat) (S : pm_S) (a : Nat) (r : (Int32 × pm_S)) (h : F_M_readPlan N S a = some r) : pm_rel pG sp (d + 5) mi_M_readPlan [.ref a] S (some (.int r.1), r.2) := by
  have hg := g_M_readPlan h
  unfold F_M_readPlan at h
  rw [if_pos hg] at h
  refine pE_rel (d := d + 4) ?_
  show pmE pG _ mi_M_readPlan 0 [some (.ref a), none, none, none] [] S _
  refine pE_jump 1 (pc' := 1) (ls' := [some (.ref a), none, none, none]) (st' := [.ref a]) (fun _ => rfl) ?_
  obtain ⟨v1, hv1, h⟩ := obind h
  refine pE_gfI rfl rfl hv1 ?_
  refine pE_jump 3 (pc' := 7) (ls' := [some (.ref a), some (.int v1), none, none]) (st' := [.int 0, .ref a]) (fun _ => rfl) ?_
  obtain ⟨S2, hS2, h⟩ := obind h
  refine pE_pf rfl rfl rfl hS2 ?_
  refine pE_jump 2 (pc' := 12) (ls' := [some (.ref a), some (.int v1), none, none]) (st' := [.int (-1), .ref a]) (fun _ => rfl) ?_
  obtain ⟨S3, hS3, h⟩ := obind h
  refine pE_pf rfl rfl rfl hS3 ?_
  refine pE_jump 1 (pc' := 16) (ls' := [some (.ref a), some (.int v1), none, none]) (st' := [.ref a]) (fun _ => rfl) ?_
  obtain ⟨oq4, hq4, h⟩ := obind h
  cases oq4 with
  | none => cases h
  | some q4 =>
    try dsimp only at h
    refine pE_gfS rfl rfl hq4 ?_
    refine pE_jump 2 (pc' := 21) (ls' := [some (.ref a), some (.int v1), none, none]) (st' := [.int 0, .int v1, .ref q4]) (fun _ => rfl) ?_
    obtain ⟨S5, hS5, h⟩ := obind h
    refine pE_sI rfl rfl hS5 ?_
    refine pE_jump 1 (pc' := 23) (ls' := [some (.ref a), some (.int v1), none, none]) (st' := [.ref a]) (fun _ => rfl) ?_
    obtain ⟨oq6, hq6, h⟩ := obind h
    cases oq6 with
    | none => cases h
    | some q6 =>
      try dsimp only at h
      refine pE_gfS rfl rfl hq6 ?_
      refine pE_jump 2 (pc' := 28) (ls' := [some (.ref a), some (.int v1), none, none]) (st' := [.int 0, .int v1, .ref q6]) (fun _ => rfl) ?_
      obtain ⟨S7, hS7, h⟩ := obind h
      refine pE_sI rfl rfl hS7 ?_
      refine pE_jump 1 (pc' := 30) (ls' := [some (.ref a), some (.int v1), none, none]) (st' := [.ref a]) (fun _ => rfl) ?_
      obtain ⟨oq8, hq8, h⟩ := obind h
      cases oq8 with
      | none => cases h
      | some q8 =>
        try dsimp only at h
        refine pE_gfS rfl rfl hq8 ?_
        refine pE_jump 2 (pc' := 35) (ls' := [some (.ref a), some (.int v1), none, none]) (st' := [.int 0, .int v1, .ref q8]) (fun _ => rfl) ?_
        obtain ⟨S9, hS9, h⟩ := obind h
        refine pE_sI rfl rfl hS9 ?_
        refine pE_jump 1 (pc' := 37) (ls' := [some (.ref a), some (.int v1), none, none]) (st' := [.ref a]) (fun _ => rfl) ?_
        obtain ⟨⟨v11, S10⟩, hv11, h⟩ := obind h
        try dsimp only at h
        refine pE_iv (Bs := []) (st := []) 1 rfl (Or.inl ⟨rfl, rfl⟩) rfl rfl (Nat.le_of_ble_eq_true rfl) (Nat.le_of_ble_eq_true rfl) (g_M_look hv11) (f_M_look sp (d + 2) N S9 a _ hv11) ?_
        refine pE_jump 1 (pc' := 42) (ls' := [some (.ref a), some (.int v1), none, none]) (st' := [.int 98, .int v11]) (fun _ => rfl) ?_
        refine pE_br (v11 = 98) rfl rfl (fun c56 => ?_) (fun c56 => ?_)
        · rw [if_pos c56] at h
          refine pE_jump 2 (pc' := 56) (ls' := [some (.ref a), some (.int v1), none, none]) (st' := [.ref a, .ref a]) (fun _ => rfl) ?_
          obtain ⟨v12, hv12, h⟩ := obind h
          refine pE_gfI rfl rfl hv12 ?_
          refine pE_jump 2 (pc' := 61) (ls' := [some (.ref a), some (.int v1), none, none]) (st' := [.int (v12 + 1), .ref a]) (fun _ => rfl) ?_
          obtain ⟨S13, hS13, h⟩ := obind h
          refine pE_pf rfl rfl rfl hS13 ?_
          refine pE_jump 6 (pc' := 71) (ls' := [some (.ref a), some (.int v1), none, none]) (st' := [.int 0, .int v1, .int 0, .int 8, .int 2, .ref a]) (fun _ => rfl) ?_
          obtain ⟨⟨v15, S14⟩, hv15, h⟩ := obind h
          try dsimp only at h
          refine pE_iv (Bs := [.int 2, .int 8, .int 0, .int v1, .int 0]) (st := []) 1 rfl (Or.inl ⟨rfl, rfl⟩) rfl rfl (Nat.le_of_ble_eq_true rfl) (Nat.le_of_ble_eq_true rfl) (g_M_number hv15) (f_M_number sp (d + 1) N S13 a 2 8 0 v1 0 _ hv15) ?_
          refine pE_br (¬ v15 = 0) rfl rfl (fun c51 => ?_) (fun c51 => ?_)
          · rw [if_neg c51] at h
            refine pE_jump 1 (pc' := 80) (ls' := [some (.ref a), some (.int v1), none, none]) (st' := [.ref a]) (fun _ => rfl) ?_
            obtain ⟨oq16, hq16, h⟩ := obind h
            cases oq16 with
            | none => cases h
            | some q16 =>
              try dsimp only at h
              refine pE_gfS rfl rfl hq16 ?_
              refine pE_jump 2 (pc' := 85) (ls' := [some (.ref a), some (.int v1), none, none]) (st' := [.ref a, .int v1, .ref q16]) (fun _ => rfl) ?_
              obtain ⟨v18, hv18, h⟩ := obind h
              refine pE_gfI rfl rfl hv18 ?_
              obtain ⟨S19, hS19, h⟩ := obind h
              refine pE_sI rfl rfl hS19 ?_
              exact f_M_readPlan_89 sp d N a v1 N S19 _ h
          · have c51 := Decidable.not_not.mp c51
            rw [if_pos c51] at h
            refine pE_jump 1 (pc' := 78) (ls' := [some (.ref a), some (.int v1), none, none]) (st' := [.int 0]) (fun _ => rfl) ?_
            cases h
            exact pE_ret rfl rfl rfl
        · rw [if_neg c56] at h
          refine pE_jump 2 (pc' := 47) (ls' := [some (.ref a), some (.int v1), none, none]) (st' := [.ref a, .ref a]) (fun _ => rfl) ?_
          obtain ⟨v52, hv52, h⟩ := obind h
          refine pE_gfI rfl rfl hv52 ?_
          obtain ⟨⟨v54, S53⟩, hv54, h⟩ := obind h
          try dsimp only at h
          refine pE_iv (Bs := [.int v52]) (st := []) 1 rfl (Or.inl ⟨rfl, rfl⟩) rfl rfl (Nat.le_of_ble_eq_true rfl) (Nat.le_of_ble_eq_true rfl) (g_M_fails hv54) (f_M_fails sp (d + 3) N S10 a v52 _ hv54) ?_
          by_cases c55 : v54 = 0 ∨ v54 = 1
          · rw [if_pos c55] at h
            cases h
            exact pE_ret rfl (if_pos c55) rfl
          · rw [if_neg c55] at h
            cases h
def F_M_fault (N : Nat) (S : pm_S) (a : Nat) : Option (Int32 × pm_S) :=
    if rcv S a 11 = true then
    ((wF S a 11 0 .int (.int 0)).bind fun S1 =>
    (F_M_readPlan N S1 a).bind fun (v3, S2) =>
    (oI S2 a 11 4).bind fun v4 =>
    some (v4, S2))
    else none
theorem g_M_fault {N : Nat} {S : pm_S} {a : Nat} {r : (Int32 × pm_S)} (h : F_M_fault N S a = some r) : rcv S a 11 = true := by
  unfold F_M_fault at h
  by_cases c : rcv S a 11 = true
  · exact c
  · rw [if_neg c] at h; cases h
set_option maxHeartbeats 4000000 in
set_option maxRecDepth 20000 in
theorem f_M_fault (sp : pm_I → List Value → pm_S → pm_O → Prop) (d N : Nat) (S : pm_S) (a : Nat) (r : (Int32 × pm_S)) (h : F_M_fault N S a = some r) : pm_rel pG sp (d + 6) mi_M_fault [.ref a] S (some (.int r.1), r.2) := by
  have hg := g_M_fault h
  unfold F_M_fault at h
  rw [if_pos hg] at h
  refine pE_rel (d := d + 5) ?_
  show pmE pG _ mi_M_fault 0 [some (.ref a), none] [] S _
  refine pE_jump 2 (pc' := 2) (ls' := [some (.ref a), none]) (st' := [.int 0, .ref a]) (fun _ => rfl) ?_
  obtain ⟨S1, hS1, h⟩ := obind h
  refine pE_pf rfl rfl rfl hS1 ?_
  refine pE_jump 1 (pc' := 6) (ls' := [some (.ref a), none]) (st' := [.ref a]) (fun _ => rfl) ?_
  obtain ⟨⟨v3, S2⟩, hv3, h⟩ := obind h
  try dsimp only at h
  refine pE_iv (Bs := []) (st := []) 1 rfl (Or.inl ⟨rfl, rfl⟩) rfl rfl (Nat.le_of_ble_eq_true rfl) (Nat.le_of_ble_eq_true rfl) (g_M_readPlan hv3) (f_M_readPlan sp d N S1 a _ hv3) ?_
  refine pE_jump 2 (pc' := 11) (ls' := [some (.ref a), some (.int v3)]) (st' := [.ref a]) (fun _ => rfl) ?_
  obtain ⟨v4, hv4, h⟩ := obind h
  refine pE_gfI rfl rfl hv4 ?_
  cases h
  exact pE_ret rfl rfl rfl
def F_M_plan_21 (N : Nat)   (S : pm_S) : Option (Int32 × pm_S) :=
    some ((-1), S)
set_option maxHeartbeats 4000000 in
set_option maxRecDepth 20000 in
theorem f_M_plan_21 (sp : pm_I → List Value → pm_S → pm_O → Prop) (d N : Nat)   (S : pm_S)  (r : (Int32 × pm_S)) (h : F_M_plan_21 N   S = some r) : pmE pG (pm_rel pG sp (d + 5)) mi_M_plan 21 [none, none] [] S (some (.int r.1), r.2) := by
  unfold F_M_plan_21 at h
  refine pE_jump 1 (pc' := 22) (ls' := [none, none]) (st' := [.int (-1)]) (fun _ => rfl) ?_
  cases h
  exact pE_ret rfl rfl rfl
def F_M_plan_87 (N : Nat)  (x0 : Nat) (S : pm_S) : Option (Int32 × pm_S) :=
    (oI S x0 11 19).bind fun v18 =>
    (wF S x0 11 19 .int (.int (v18 + 1))).bind fun S19 =>
    (oI S19 x0 11 19).bind fun v20 =>
    some (v20 - 1, S19)
set_option maxHeartbeats 4000000 in
set_option maxRecDepth 20000 in
theorem f_M_plan_87 (sp : pm_I → List Value → pm_S → pm_O → Prop) (d N : Nat)  (x0 : Nat) (S : pm_S)  (r : (Int32 × pm_S)) (h : F_M_plan_87 N  x0 S = some r) : pmE pG (pm_rel pG sp (d + 5)) mi_M_plan 87 [some (.ref x0), none] [] S (some (.int r.1), r.2) := by
  unfold F_M_plan_87 at h
  refine pE_jump 2 (pc' := 89) (ls' := [some (.ref x0), none]) (st' := [.ref x0, .ref x0]) (fun _ => rfl) ?_
  obtain ⟨v18, hv18, h⟩ := obind h
  refine pE_gfI rfl rfl hv18 ?_
  refine pE_jump 2 (pc' := 94) (ls' := [some (.ref x0), none]) (st' := [.int (v18 + 1), .ref x0]) (fun _ => rfl) ?_
  obtain ⟨S19, hS19, h⟩ := obind h
  refine pE_pf rfl rfl rfl hS19 ?_
  refine pE_jump 1 (pc' := 98) (ls' := [some (.ref x0), none]) (st' := [.ref x0]) (fun _ => rfl) ?_
  obtain ⟨v20, hv20, h⟩ := obind h
  refine pE_gfI rfl rfl hv20 ?_
  refine pE_jump 2 (pc' := 103) (ls' := [some (.ref x0), none]) (st' := [.int (v20 - 1)]) (fun _ => rfl) ?_
  cases h
  exact pE_ret rfl rfl rfl
def B_M_plan_60 (N : Nat)  (rec60 : Int32 → pm_S → Option (Int32 × pm_S)) (x0 : Nat) (x1 : Int32) (S : pm_S) : Option (Int32 × pm_S) :=
    if 10 ≤ x1 then
    F_M_plan_87 N x0 S
    else
    ((oR S x0 11 53).bind fun oq21 => match oq21 with
    | none => none
    | some q21 =>
    (oI S x0 11 19).bind fun v23 =>
    (sI [0] S q21 ((10 * v23) + x1) (-1)).bind fun S24 =>
    rec60 (x1 + 1) S24)
def F_M_plan_60 (N : Nat)  (x0 : Nat) : Nat → Int32 → pm_S → Option (Int32 × pm_S)
  | 0 => fun _ _ => none
  | n + 1 => fun x1 S => B_M_plan_60 N  (F_M_plan_60 N  x0 n) x0 x1 S
set_option maxHeartbeats 4000000 in
set_option maxRecDepth 20000 in
theorem f_M_plan_60 (sp : pm_I → List Value → pm_S → pm_O → Prop) (d N : Nat)  (x0 : Nat)  : ∀ (n : Nat) (x1 : Int32) (S : pm_S) (r : (Int32 × pm_S)), F_M_plan_60 N  x0 n x1 S = some r → pmE pG (pm_rel pG sp (d + 5)) mi_M_plan 60 [some (.ref x0), some (.int x1)] [] S (some (.int r.1), r.2) := by
  intro n
  induction n with
  | zero =>
    intro x1 S r h
    cases h
  | succ n ih =>
    intro x1 S r h
    replace h : B_M_plan_60 N  (F_M_plan_60 N  x0 n) x0 x1 S = some r := h
    have hrec60 := ih
    generalize F_M_plan_60 N  x0 n = rec60 at h hrec60
    unfold B_M_plan_60 at h
    refine pE_jump 2 (pc' := 63) (ls' := [some (.ref x0), some (.int x1)]) (st' := [.int 10, .int x1]) (fun _ => rfl) ?_
    refine pE_br (10 ≤ x1) rfl rfl (fun c25 => ?_) (fun c25 => ?_)
    · rw [if_pos c25] at h
      refine pE_weak [some (.ref x0), none] ⟨rfl, trivial⟩ ?_
      exact f_M_plan_87 sp d N x0 S _ h
    · rw [if_neg c25] at h
      refine pE_jump 1 (pc' := 67) (ls' := [some (.ref x0), some (.int x1)]) (st' := [.ref x0]) (fun _ => rfl) ?_
      obtain ⟨oq21, hq21, h⟩ := obind h
      cases oq21 with
      | none => cases h
      | some q21 =>
        try dsimp only at h
        refine pE_gfS rfl rfl hq21 ?_
        refine pE_jump 2 (pc' := 73) (ls' := [some (.ref x0), some (.int x1)]) (st' := [.ref x0, .int 10, .ref q21]) (fun _ => rfl) ?_
        obtain ⟨v23, hv23, h⟩ := obind h
        refine pE_gfI rfl rfl hv23 ?_
        refine pE_jump 4 (pc' := 80) (ls' := [some (.ref x0), some (.int x1)]) (st' := [.int (-1), .int ((10 * v23) + x1), .ref q21]) (fun _ => rfl) ?_
        obtain ⟨S24, hS24, h⟩ := obind h
        refine pE_sI rfl rfl hS24 ?_
        refine pE_jump 2 (pc' := 60) (ls' := [some (.ref x0), some (.int (x1 + 1))]) (st' := []) (fun _ => rfl) ?_
        exact hrec60 (x1 + 1) S24 _ h
def F_M_plan (N : Nat) (S : pm_S) (a : Nat) : Option (Int32 × pm_S) :=
    if rcv S a 11 = true then
    ((wF S a 11 0 .int (.int 0)).bind fun S1 =>
    (oI S1 a 11 19).bind fun v2 =>
    if v2 = 6 then
    F_M_plan_21 N S1
    else
    ((F_M_readPlan N S1 a).bind fun (v4, S3) =>
    if v4 = 0 then
    F_M_plan_21 N S3
    else
    ((wF S3 a 11 2 .int (.int 0)).bind fun S5 =>
    (oR S5 a 11 20).bind fun oq6 => match oq6 with
    | none => none
    | some q6 =>
    (oI S5 a 11 19).bind fun v8 =>
    (sI [0] S5 q6 v8 0).bind fun S9 =>
    (oR S9 a 11 37).bind fun oq10 => match oq10 with
    | none => none
    | some q10 =>
    (oI S9 a 11 19).bind fun v12 =>
    (sI [0] S9 q10 v12 0).bind fun S13 =>
    (oR S13 a 11 44).bind fun oq14 => match oq14 with
    | none => none
    | some q14 =>
    (oI S13 a 11 19).bind fun v16 =>
    (sI [0] S13 q14 v16 0).bind fun S17 =>
    F_M_plan_60 N a N 0 S17)))
    else none
theorem g_M_plan {N : Nat} {S : pm_S} {a : Nat} {r : (Int32 × pm_S)} (h : F_M_plan N S a = some r) : rcv S a 11 = true := by
  unfold F_M_plan at h
  by_cases c : rcv S a 11 = true
  · exact c
  · rw [if_neg c] at h; cases h
set_option maxHeartbeats 4000000 in
set_option maxRecDepth 20000 in
theorem f_M_plan (sp : pm_I → List Value → pm_S → pm_O → Prop) (d N : Nat) (S : pm_S) (a : Nat) (r : (Int32 × pm_S)) (h : F_M_plan N S a = some r) : pm_rel pG sp (d + 6) mi_M_plan [.ref a] S (some (.int r.1), r.2) := by
  have hg := g_M_plan h
  unfold F_M_plan at h
  rw [if_pos hg] at h
  refine pE_rel (d := d + 5) ?_
  show pmE pG _ mi_M_plan 0 [some (.ref a), none] [] S _
  refine pE_jump 2 (pc' := 2) (ls' := [some (.ref a), none]) (st' := [.int 0, .ref a]) (fun _ => rfl) ?_
  obtain ⟨S1, hS1, h⟩ := obind h
  refine pE_pf rfl rfl rfl hS1 ?_
  refine pE_jump 1 (pc' := 6) (ls' := [some (.ref a), none]) (st' := [.ref a]) (fun _ => rfl) ?_
  obtain ⟨v2, hv2, h⟩ := obind h
  refine pE_gfI rfl rfl hv2 ?_
  refine pE_jump 1 (pc' := 11) (ls' := [some (.ref a), none]) (st' := [.int 6, .int v2]) (fun _ => rfl) ?_
  refine pE_br (v2 = 6) rfl rfl (fun c27 => ?_) (fun c27 => ?_)
  · rw [if_pos c27] at h
    refine pE_weak [none, none] trivial ?_
    exact f_M_plan_21 sp d N S1 _ h
  · rw [if_neg c27] at h
    refine pE_jump 1 (pc' := 15) (ls' := [some (.ref a), none]) (st' := [.ref a]) (fun _ => rfl) ?_
    obtain ⟨⟨v4, S3⟩, hv4, h⟩ := obind h
    try dsimp only at h
    refine pE_iv (Bs := []) (st := []) 1 rfl (Or.inl ⟨rfl, rfl⟩) rfl rfl (Nat.le_of_ble_eq_true rfl) (Nat.le_of_ble_eq_true rfl) (g_M_readPlan hv4) (f_M_readPlan sp d N S1 a _ hv4) ?_
    refine pE_br (¬ v4 = 0) rfl rfl (fun c26 => ?_) (fun c26 => ?_)
    · rw [if_neg c26] at h
      refine pE_jump 2 (pc' := 25) (ls' := [some (.ref a), none]) (st' := [.int 0, .ref a]) (fun _ => rfl) ?_
      obtain ⟨S5, hS5, h⟩ := obind h
      refine pE_pf rfl rfl rfl hS5 ?_
      refine pE_jump 1 (pc' := 29) (ls' := [some (.ref a), none]) (st' := [.ref a]) (fun _ => rfl) ?_
      obtain ⟨oq6, hq6, h⟩ := obind h
      cases oq6 with
      | none => cases h
      | some q6 =>
        try dsimp only at h
        refine pE_gfS rfl rfl hq6 ?_
        refine pE_jump 1 (pc' := 33) (ls' := [some (.ref a), none]) (st' := [.ref a, .ref q6]) (fun _ => rfl) ?_
        obtain ⟨v8, hv8, h⟩ := obind h
        refine pE_gfI rfl rfl hv8 ?_
        refine pE_jump 1 (pc' := 37) (ls' := [some (.ref a), none]) (st' := [.int 0, .int v8, .ref q6]) (fun _ => rfl) ?_
        obtain ⟨S9, hS9, h⟩ := obind h
        refine pE_sI rfl rfl hS9 ?_
        refine pE_jump 1 (pc' := 39) (ls' := [some (.ref a), none]) (st' := [.ref a]) (fun _ => rfl) ?_
        obtain ⟨oq10, hq10, h⟩ := obind h
        cases oq10 with
        | none => cases h
        | some q10 =>
          try dsimp only at h
          refine pE_gfS rfl rfl hq10 ?_
          refine pE_jump 1 (pc' := 43) (ls' := [some (.ref a), none]) (st' := [.ref a, .ref q10]) (fun _ => rfl) ?_
          obtain ⟨v12, hv12, h⟩ := obind h
          refine pE_gfI rfl rfl hv12 ?_
          refine pE_jump 1 (pc' := 47) (ls' := [some (.ref a), none]) (st' := [.int 0, .int v12, .ref q10]) (fun _ => rfl) ?_
          obtain ⟨S13, hS13, h⟩ := obind h
          refine pE_sI rfl rfl hS13 ?_
          refine pE_jump 1 (pc' := 49) (ls' := [some (.ref a), none]) (st' := [.ref a]) (fun _ => rfl) ?_
          obtain ⟨oq14, hq14, h⟩ := obind h
          cases oq14 with
          | none => cases h
          | some q14 =>
            try dsimp only at h
            refine pE_gfS rfl rfl hq14 ?_
            refine pE_jump 1 (pc' := 53) (ls' := [some (.ref a), none]) (st' := [.ref a, .ref q14]) (fun _ => rfl) ?_
            obtain ⟨v16, hv16, h⟩ := obind h
            refine pE_gfI rfl rfl hv16 ?_
            refine pE_jump 1 (pc' := 57) (ls' := [some (.ref a), none]) (st' := [.int 0, .int v16, .ref q14]) (fun _ => rfl) ?_
            obtain ⟨S17, hS17, h⟩ := obind h
            refine pE_sI rfl rfl hS17 ?_
            refine pE_jump 2 (pc' := 60) (ls' := [some (.ref a), some (.int 0)]) (st' := []) (fun _ => rfl) ?_
            exact f_M_plan_60 sp d N a N 0 S17 _ h
    · have c26 := Decidable.not_not.mp c26
      rw [if_pos c26] at h
      refine pE_weak [none, none] trivial ?_
      exact f_M_plan_21 sp d N S3 _ h
def F_M_isPlan_17 (N : Nat)  (t0 : Int32) (S : pm_S) : Option (Int32 × pm_S) :=
    if t0 = 0 ∨ t0 = 1 then some (t0, S) else none
set_option maxHeartbeats 4000000 in
set_option maxRecDepth 20000 in
theorem f_M_isPlan_17 (sp : pm_I → List Value → pm_S → pm_O → Prop) (d N : Nat)  (t0 : Int32) (S : pm_S)  (r : (Int32 × pm_S)) (h : F_M_isPlan_17 N  t0 S = some r) : pmE pG (pm_rel pG sp (d + 0)) mi_M_isPlan 17 [none, none] [.int t0] S (some (.int r.1), r.2) := by
  unfold F_M_isPlan_17 at h
  by_cases c1 : t0 = 0 ∨ t0 = 1
  · rw [if_pos c1] at h
    cases h
    exact pE_ret rfl (if_pos c1) rfl
  · rw [if_neg c1] at h
    cases h
def F_M_isPlan_16 (N : Nat)   (S : pm_S) : Option (Int32 × pm_S) :=
    F_M_isPlan_17 N 0 S
set_option maxHeartbeats 4000000 in
set_option maxRecDepth 20000 in
theorem f_M_isPlan_16 (sp : pm_I → List Value → pm_S → pm_O → Prop) (d N : Nat)   (S : pm_S)  (r : (Int32 × pm_S)) (h : F_M_isPlan_16 N   S = some r) : pmE pG (pm_rel pG sp (d + 0)) mi_M_isPlan 16 [none, none] [] S (some (.int r.1), r.2) := by
  unfold F_M_isPlan_16 at h
  refine pE_jump 1 (pc' := 17) (ls' := [none, none]) (st' := [.int 0]) (fun _ => rfl) ?_
  exact f_M_isPlan_17 sp d N 0 S _ h
def F_M_isPlan (N : Nat) (S : pm_S) (a : Nat) (p0 : Int32) : Option (Int32 × pm_S) :=
    if rcv S a 11 = true then
    (if p0 < 0 then
    F_M_isPlan_16 N S
    else
    ((oI S a 11 19).bind fun v2 =>
    if v2 ≤ p0 then
    F_M_isPlan_16 N S
    else
    F_M_isPlan_17 N 1 S))
    else none
theorem g_M_isPlan {N : Nat} {S : pm_S} {a : Nat} {p0 : Int32} {r : (Int32 × pm_S)} (h : F_M_isPlan N S a p0 = some r) : rcv S a 11 = true := by
  unfold F_M_isPlan at h
  by_cases c : rcv S a 11 = true
  · exact c
  · rw [if_neg c] at h; cases h
set_option maxHeartbeats 4000000 in
set_option maxRecDepth 20000 in
theorem f_M_isPlan (sp : pm_I → List Value → pm_S → pm_O → Prop) (d N : Nat) (S : pm_S) (a : Nat) (p0 : Int32) (r : (Int32 × pm_S)) (h : F_M_isPlan N S a p0 = some r) : pm_rel pG sp (d + 1) mi_M_isPlan [.ref a, .int p0] S (some (.int r.1), r.2) := by
  have hg := g_M_isPlan h
  unfold F_M_isPlan at h
  rw [if_pos hg] at h
  refine pE_rel (d := d + 0) ?_
  show pmE pG _ mi_M_isPlan 0 [some (.ref a), some (.int p0)] [] S _
  refine pE_jump 1 (pc' := 1) (ls' := [some (.ref a), some (.int p0)]) (st' := [.int p0]) (fun _ => rfl) ?_
  refine pE_br (p0 < 0) rfl rfl (fun c4 => ?_) (fun c4 => ?_)
  · rw [if_pos c4] at h
    refine pE_weak [none, none] trivial ?_
    exact f_M_isPlan_16 sp d N S _ h
  · rw [if_neg c4] at h
    refine pE_jump 2 (pc' := 6) (ls' := [some (.ref a), some (.int p0)]) (st' := [.ref a, .int p0]) (fun _ => rfl) ?_
    obtain ⟨v2, hv2, h⟩ := obind h
    refine pE_gfI rfl rfl hv2 ?_
    refine pE_br (v2 ≤ p0) rfl rfl (fun c3 => ?_) (fun c3 => ?_)
    · rw [if_pos c3] at h
      refine pE_weak [none, none] trivial ?_
      exact f_M_isPlan_16 sp d N S _ h
    · rw [if_neg c3] at h
      refine pE_jump 2 (pc' := 17) (ls' := [some (.ref a), some (.int p0)]) (st' := [.int 1]) (fun _ => rfl) ?_
      refine pE_weak [none, none] trivial ?_
      exact f_M_isPlan_17 sp d N 1 S _ h
def F_M_isCable_29 (N : Nat)  (t0 : Int32) (S : pm_S) : Option (Int32 × pm_S) :=
    if t0 = 0 ∨ t0 = 1 then some (t0, S) else none
set_option maxHeartbeats 4000000 in
set_option maxRecDepth 20000 in
theorem f_M_isCable_29 (sp : pm_I → List Value → pm_S → pm_O → Prop) (d N : Nat)  (t0 : Int32) (S : pm_S)  (r : (Int32 × pm_S)) (h : F_M_isCable_29 N  t0 S = some r) : pmE pG (pm_rel pG sp (d + 1)) mi_M_isCable 29 [none, none, none] [.int t0] S (some (.int r.1), r.2) := by
  unfold F_M_isCable_29 at h
  by_cases c3 : t0 = 0 ∨ t0 = 1
  · rw [if_pos c3] at h
    cases h
    exact pE_ret rfl (if_pos c3) rfl
  · rw [if_neg c3] at h
    cases h
def F_M_isCable_28 (N : Nat)   (S : pm_S) : Option (Int32 × pm_S) :=
    F_M_isCable_29 N 0 S
set_option maxHeartbeats 4000000 in
set_option maxRecDepth 20000 in
theorem f_M_isCable_28 (sp : pm_I → List Value → pm_S → pm_O → Prop) (d N : Nat)   (S : pm_S)  (r : (Int32 × pm_S)) (h : F_M_isCable_28 N   S = some r) : pmE pG (pm_rel pG sp (d + 1)) mi_M_isCable 28 [none, none, none] [] S (some (.int r.1), r.2) := by
  unfold F_M_isCable_28 at h
  refine pE_jump 1 (pc' := 29) (ls' := [none, none, none]) (st' := [.int 0]) (fun _ => rfl) ?_
  exact f_M_isCable_29 sp d N 0 S _ h
def F_M_isCable (N : Nat) (S : pm_S) (a : Nat) (p0 : Int32) (p1 : Int32) : Option (Int32 × pm_S) :=
    if rcv S a 11 = true then
    ((F_M_isPlan N S a p0).bind fun (v2, S1) =>
    if v2 = 0 then
    F_M_isCable_28 N S1
    else
    ((oR S1 a 11 7).bind fun oq4 => match oq4 with
    | none => none
    | some q4 =>
    (aI [0, 6] S1 q4 p0).bind fun v5 =>
    (F_M_isIn N S1 p1 0 (v5 - 1)).bind fun (v7, S6) =>
    if v7 = 0 then
    F_M_isCable_28 N S6
    else
    F_M_isCable_29 N 1 S6))
    else none
theorem g_M_isCable {N : Nat} {S : pm_S} {a : Nat} {p0 : Int32} {p1 : Int32} {r : (Int32 × pm_S)} (h : F_M_isCable N S a p0 p1 = some r) : rcv S a 11 = true := by
  unfold F_M_isCable at h
  by_cases c : rcv S a 11 = true
  · exact c
  · rw [if_neg c] at h; cases h
set_option maxHeartbeats 4000000 in
set_option maxRecDepth 20000 in
theorem f_M_isCable (sp : pm_I → List Value → pm_S → pm_O → Prop) (d N : Nat) (S : pm_S) (a : Nat) (p0 : Int32) (p1 : Int32) (r : (Int32 × pm_S)) (h : F_M_isCable N S a p0 p1 = some r) : pm_rel pG sp (d + 2) mi_M_isCable [.ref a, .int p0, .int p1] S (some (.int r.1), r.2) := by
  have hg := g_M_isCable h
  unfold F_M_isCable at h
  rw [if_pos hg] at h
  refine pE_rel (d := d + 1) ?_
  show pmE pG _ mi_M_isCable 0 [some (.ref a), some (.int p0), some (.int p1)] [] S _
  refine pE_jump 2 (pc' := 2) (ls' := [some (.ref a), some (.int p0), some (.int p1)]) (st' := [.int p0, .ref a]) (fun _ => rfl) ?_
  obtain ⟨⟨v2, S1⟩, hv2, h⟩ := obind h
  try dsimp only at h
  refine pE_iv (Bs := [.int p0]) (st := []) 1 rfl (Or.inl ⟨rfl, rfl⟩) rfl rfl (Nat.le_of_ble_eq_true rfl) (Nat.le_of_ble_eq_true rfl) (g_M_isPlan hv2) (f_M_isPlan sp d N S a p0 _ hv2) ?_
  refine pE_br (v2 = 0) rfl rfl (fun c9 => ?_) (fun c9 => ?_)
  · rw [if_pos c9] at h
    refine pE_weak [none, none, none] trivial ?_
    exact f_M_isCable_28 sp d N S1 _ h
  · rw [if_neg c9] at h
    refine pE_jump 3 (pc' := 11) (ls' := [some (.ref a), some (.int p0), some (.int p1)]) (st' := [.ref a, .int 0, .int p1]) (fun _ => rfl) ?_
    obtain ⟨oq4, hq4, h⟩ := obind h
    cases oq4 with
    | none => cases h
    | some q4 =>
      try dsimp only at h
      refine pE_gfS rfl rfl hq4 ?_
      refine pE_jump 1 (pc' := 15) (ls' := [some (.ref a), some (.int p0), some (.int p1)]) (st' := [.int p0, .ref q4, .int 0, .int p1]) (fun _ => rfl) ?_
      obtain ⟨v5, hv5, h⟩ := obind h
      refine pE_aI rfl rfl hv5 ?_
      refine pE_jump 2 (pc' := 18) (ls' := [some (.ref a), some (.int p0), some (.int p1)]) (st' := [.int (v5 - 1), .int 0, .int p1]) (fun _ => rfl) ?_
      obtain ⟨⟨v7, S6⟩, hv7, h⟩ := obind h
      try dsimp only at h
      refine pE_is (Bs := [.int p1, .int 0, .int (v5 - 1)]) (st := []) rfl rfl rfl (Nat.le_of_ble_eq_true rfl) (Nat.le_of_ble_eq_true rfl) (f_M_isIn sp d N S1 p1 0 (v5 - 1) _ hv7) ?_
      refine pE_br (v7 = 0) rfl rfl (fun c8 => ?_) (fun c8 => ?_)
      · rw [if_pos c8] at h
        refine pE_weak [none, none, none] trivial ?_
        exact f_M_isCable_28 sp d N S6 _ h
      · rw [if_neg c8] at h
        refine pE_jump 2 (pc' := 29) (ls' := [some (.ref a), some (.int p0), some (.int p1)]) (st' := [.int 1]) (fun _ => rfl) ?_
        refine pE_weak [none, none, none] trivial ?_
        exact f_M_isCable_29 sp d N 1 S6 _ h
def F_M_cable_95 (N : Nat)  (t0 : Int32) (S : pm_S) : Option (Int32 × pm_S) :=
    some (t0, S)
set_option maxHeartbeats 4000000 in
set_option maxRecDepth 20000 in
theorem f_M_cable_95 (sp : pm_I → List Value → pm_S → pm_O → Prop) (d N : Nat)  (t0 : Int32) (S : pm_S)  (r : (Int32 × pm_S)) (h : F_M_cable_95 N  t0 S = some r) : pmE pG (pm_rel pG sp (d + 2)) mi_M_cable 95 [none, none, none, none, none] [.int t0] S (some (.int r.1), r.2) := by
  unfold F_M_cable_95 at h
  cases h
  exact pE_ret rfl rfl rfl
def F_M_cable_24 (N : Nat)  (x0 : Nat) (x1 : Int32) (x2 : Int32) (x3 : Int32) (t0 : Int32) (t1 : Nat) (S : pm_S) : Option (Int32 × pm_S) :=
    (wF S t1 11 0 .int (.int t0)).bind fun S3 =>
    (oI S3 x0 11 0).bind fun v4 =>
    if v4 ≤ 0 then
    (if x3 = 0 then
    ((oR S3 x0 11 8).bind fun oq5 => match oq5 with
    | none => none
    | some q5 =>
    (aI [0, 6] S3 q5 ((7 * x1) + x2)).bind fun v6 =>
    F_M_cable_95 N v6 S3)
    else
    (if x3 = 1 then
    ((oR S3 x0 11 9).bind fun oq7 => match oq7 with
    | none => none
    | some q7 =>
    (aI [0, 6] S3 q7 ((7 * x1) + x2)).bind fun v8 =>
    F_M_cable_95 N v8 S3)
    else
    (if x3 = 2 then
    ((oR S3 x0 11 10).bind fun oq9 => match oq9 with
    | none => none
    | some q9 =>
    (aI [0, 6] S3 q9 ((7 * x1) + x2)).bind fun v10 =>
    F_M_cable_95 N v10 S3)
    else
    ((oR S3 x0 11 11).bind fun oq11 => match oq11 with
    | none => none
    | some q11 =>
    (aI [0, 6] S3 q11 ((7 * x1) + x2)).bind fun v12 =>
    F_M_cable_95 N v12 S3))))
    else
    some (0, S3)
set_option maxHeartbeats 4000000 in
set_option maxRecDepth 20000 in
theorem f_M_cable_24 (sp : pm_I → List Value → pm_S → pm_O → Prop) (d N : Nat)  (x0 : Nat) (x1 : Int32) (x2 : Int32) (x3 : Int32) (t0 : Int32) (t1 : Nat) (S : pm_S)  (r : (Int32 × pm_S)) (h : F_M_cable_24 N  x0 x1 x2 x3 t0 t1 S = some r) : pmE pG (pm_rel pG sp (d + 2)) mi_M_cable 24 [some (.ref x0), some (.int x1), some (.int x2), some (.int x3), none] [.int t0, .ref t1] S (some (.int r.1), r.2) := by
  unfold F_M_cable_24 at h
  obtain ⟨S3, hS3, h⟩ := obind h
  refine pE_pf rfl rfl rfl hS3 ?_
  refine pE_jump 1 (pc' := 28) (ls' := [some (.ref x0), some (.int x1), some (.int x2), some (.int x3), none]) (st' := [.ref x0]) (fun _ => rfl) ?_
  obtain ⟨v4, hv4, h⟩ := obind h
  refine pE_gfI rfl rfl hv4 ?_
  refine pE_br (v4 ≤ 0) rfl rfl (fun c16 => ?_) (fun c16 => ?_)
  · rw [if_pos c16] at h
    refine pE_jump 7 (pc' := 45) (ls' := [some (.ref x0), some (.int x1), some (.int x2), some (.int x3), some (.int ((7 * x1) + x2))]) (st' := [.int x3]) (fun _ => rfl) ?_
    refine pE_br (¬ x3 = 0) rfl rfl (fun c15 => ?_) (fun c15 => ?_)
    · rw [if_neg c15] at h
      refine pE_jump 2 (pc' := 60) (ls' := [some (.ref x0), some (.int x1), some (.int x2), some (.int x3), some (.int ((7 * x1) + x2))]) (st' := [.int 1, .int x3]) (fun _ => rfl) ?_
      refine pE_br (¬ x3 = 1) rfl rfl (fun c14 => ?_) (fun c14 => ?_)
      · rw [if_neg c14] at h
        refine pE_jump 2 (pc' := 75) (ls' := [some (.ref x0), some (.int x1), some (.int x2), some (.int x3), some (.int ((7 * x1) + x2))]) (st' := [.int 2, .int x3]) (fun _ => rfl) ?_
        refine pE_br (¬ x3 = 2) rfl rfl (fun c13 => ?_) (fun c13 => ?_)
        · rw [if_neg c13] at h
          refine pE_jump 1 (pc' := 89) (ls' := [some (.ref x0), some (.int x1), some (.int x2), some (.int x3), some (.int ((7 * x1) + x2))]) (st' := [.ref x0]) (fun _ => rfl) ?_
          obtain ⟨oq11, hq11, h⟩ := obind h
          cases oq11 with
          | none => cases h
          | some q11 =>
            try dsimp only at h
            refine pE_gfS rfl rfl hq11 ?_
            refine pE_jump 1 (pc' := 94) (ls' := [some (.ref x0), some (.int x1), some (.int x2), some (.int x3), some (.int ((7 * x1) + x2))]) (st' := [.int ((7 * x1) + x2), .ref q11]) (fun _ => rfl) ?_
            obtain ⟨v12, hv12, h⟩ := obind h
            refine pE_aI rfl rfl hv12 ?_
            refine pE_weak [none, none, none, none, none] trivial ?_
            exact f_M_cable_95 sp d N v12 S3 _ h
        · have c13 := Decidable.not_not.mp c13
          rw [if_pos c13] at h
          refine pE_jump 1 (pc' := 79) (ls' := [some (.ref x0), some (.int x1), some (.int x2), some (.int x3), some (.int ((7 * x1) + x2))]) (st' := [.ref x0]) (fun _ => rfl) ?_
          obtain ⟨oq9, hq9, h⟩ := obind h
          cases oq9 with
          | none => cases h
          | some q9 =>
            try dsimp only at h
            refine pE_gfS rfl rfl hq9 ?_
            refine pE_jump 1 (pc' := 84) (ls' := [some (.ref x0), some (.int x1), some (.int x2), some (.int x3), some (.int ((7 * x1) + x2))]) (st' := [.int ((7 * x1) + x2), .ref q9]) (fun _ => rfl) ?_
            obtain ⟨v10, hv10, h⟩ := obind h
            refine pE_aI rfl rfl hv10 ?_
            refine pE_jump 1 (pc' := 95) (ls' := [some (.ref x0), some (.int x1), some (.int x2), some (.int x3), some (.int ((7 * x1) + x2))]) (st' := [.int v10]) (fun _ => rfl) ?_
            refine pE_weak [none, none, none, none, none] trivial ?_
            exact f_M_cable_95 sp d N v10 S3 _ h
      · have c14 := Decidable.not_not.mp c14
        rw [if_pos c14] at h
        refine pE_jump 1 (pc' := 64) (ls' := [some (.ref x0), some (.int x1), some (.int x2), some (.int x3), some (.int ((7 * x1) + x2))]) (st' := [.ref x0]) (fun _ => rfl) ?_
        obtain ⟨oq7, hq7, h⟩ := obind h
        cases oq7 with
        | none => cases h
        | some q7 =>
          try dsimp only at h
          refine pE_gfS rfl rfl hq7 ?_
          refine pE_jump 1 (pc' := 69) (ls' := [some (.ref x0), some (.int x1), some (.int x2), some (.int x3), some (.int ((7 * x1) + x2))]) (st' := [.int ((7 * x1) + x2), .ref q7]) (fun _ => rfl) ?_
          obtain ⟨v8, hv8, h⟩ := obind h
          refine pE_aI rfl rfl hv8 ?_
          refine pE_jump 1 (pc' := 95) (ls' := [some (.ref x0), some (.int x1), some (.int x2), some (.int x3), some (.int ((7 * x1) + x2))]) (st' := [.int v8]) (fun _ => rfl) ?_
          refine pE_weak [none, none, none, none, none] trivial ?_
          exact f_M_cable_95 sp d N v8 S3 _ h
    · have c15 := Decidable.not_not.mp c15
      rw [if_pos c15] at h
      refine pE_jump 1 (pc' := 49) (ls' := [some (.ref x0), some (.int x1), some (.int x2), some (.int x3), some (.int ((7 * x1) + x2))]) (st' := [.ref x0]) (fun _ => rfl) ?_
      obtain ⟨oq5, hq5, h⟩ := obind h
      cases oq5 with
      | none => cases h
      | some q5 =>
        try dsimp only at h
        refine pE_gfS rfl rfl hq5 ?_
        refine pE_jump 1 (pc' := 54) (ls' := [some (.ref x0), some (.int x1), some (.int x2), some (.int x3), some (.int ((7 * x1) + x2))]) (st' := [.int ((7 * x1) + x2), .ref q5]) (fun _ => rfl) ?_
        obtain ⟨v6, hv6, h⟩ := obind h
        refine pE_aI rfl rfl hv6 ?_
        refine pE_jump 1 (pc' := 95) (ls' := [some (.ref x0), some (.int x1), some (.int x2), some (.int x3), some (.int ((7 * x1) + x2))]) (st' := [.int v6]) (fun _ => rfl) ?_
        refine pE_weak [none, none, none, none, none] trivial ?_
        exact f_M_cable_95 sp d N v6 S3 _ h
  · rw [if_neg c16] at h
    refine pE_jump 1 (pc' := 35) (ls' := [some (.ref x0), some (.int x1), some (.int x2), some (.int x3), none]) (st' := [.int 0]) (fun _ => rfl) ?_
    cases h
    exact pE_ret rfl rfl rfl
def F_M_cable_23 (N : Nat)  (x0 : Nat) (x1 : Int32) (x2 : Int32) (x3 : Int32) (t0 : Nat) (S : pm_S) : Option (Int32 × pm_S) :=
    F_M_cable_24 N x0 x1 x2 x3 1 t0 S
set_option maxHeartbeats 4000000 in
set_option maxRecDepth 20000 in
theorem f_M_cable_23 (sp : pm_I → List Value → pm_S → pm_O → Prop) (d N : Nat)  (x0 : Nat) (x1 : Int32) (x2 : Int32) (x3 : Int32) (t0 : Nat) (S : pm_S)  (r : (Int32 × pm_S)) (h : F_M_cable_23 N  x0 x1 x2 x3 t0 S = some r) : pmE pG (pm_rel pG sp (d + 2)) mi_M_cable 23 [some (.ref x0), some (.int x1), some (.int x2), some (.int x3), none] [.ref t0] S (some (.int r.1), r.2) := by
  unfold F_M_cable_23 at h
  refine pE_jump 1 (pc' := 24) (ls' := [some (.ref x0), some (.int x1), some (.int x2), some (.int x3), none]) (st' := [.int 1, .ref t0]) (fun _ => rfl) ?_
  exact f_M_cable_24 sp d N x0 x1 x2 x3 1 t0 S _ h
def F_M_cable (N : Nat) (S : pm_S) (a : Nat) (p0 : Int32) (p1 : Int32) (p2 : Int32) : Option (Int32 × pm_S) :=
    if rcv S a 11 = true then
    ((F_M_isCable N S a p0 p1).bind fun (v2, S1) =>
    if v2 = 0 then
    F_M_cable_23 N a p0 p1 p2 a S1
    else
    ((F_M_isIn N S1 p2 0 3).bind fun (v18, S17) =>
    if v18 = 0 then
    F_M_cable_23 N a p0 p1 p2 a S17
    else
    F_M_cable_24 N a p0 p1 p2 0 a S17))
    else none
theorem g_M_cable {N : Nat} {S : pm_S} {a : Nat} {p0 : Int32} {p1 : Int32} {p2 : Int32} {r : (Int32 × pm_S)} (h : F_M_cable N S a p0 p1 p2 = some r) : rcv S a 11 = true := by
  unfold F_M_cable at h
  by_cases c : rcv S a 11 = true
  · exact c
  · rw [if_neg c] at h; cases h
set_option maxHeartbeats 4000000 in
set_option maxRecDepth 20000 in
theorem f_M_cable (sp : pm_I → List Value → pm_S → pm_O → Prop) (d N : Nat) (S : pm_S) (a : Nat) (p0 : Int32) (p1 : Int32) (p2 : Int32) (r : (Int32 × pm_S)) (h : F_M_cable N S a p0 p1 p2 = some r) : pm_rel pG sp (d + 3) mi_M_cable [.ref a, .int p0, .int p1, .int p2] S (some (.int r.1), r.2) := by
  have hg := g_M_cable h
  unfold F_M_cable at h
  rw [if_pos hg] at h
  refine pE_rel (d := d + 2) ?_
  show pmE pG _ mi_M_cable 0 [some (.ref a), some (.int p0), some (.int p1), some (.int p2), none] [] S _
  refine pE_jump 4 (pc' := 4) (ls' := [some (.ref a), some (.int p0), some (.int p1), some (.int p2), none]) (st' := [.int p1, .int p0, .ref a, .ref a]) (fun _ => rfl) ?_
  obtain ⟨⟨v2, S1⟩, hv2, h⟩ := obind h
  try dsimp only at h
  refine pE_iv (Bs := [.int p0, .int p1]) (st := [.ref a]) 1 rfl (Or.inl ⟨rfl, rfl⟩) rfl rfl (Nat.le_of_ble_eq_true rfl) (Nat.le_of_ble_eq_true rfl) (g_M_isCable hv2) (f_M_isCable sp d N S a p0 p1 _ hv2) ?_
  refine pE_br (v2 = 0) rfl rfl (fun c20 => ?_) (fun c20 => ?_)
  · rw [if_pos c20] at h
    exact f_M_cable_23 sp d N a p0 p1 p2 a S1 _ h
  · rw [if_neg c20] at h
    refine pE_jump 3 (pc' := 13) (ls' := [some (.ref a), some (.int p0), some (.int p1), some (.int p2), none]) (st' := [.int 3, .int 0, .int p2, .ref a]) (fun _ => rfl) ?_
    obtain ⟨⟨v18, S17⟩, hv18, h⟩ := obind h
    try dsimp only at h
    refine pE_is (Bs := [.int p2, .int 0, .int 3]) (st := [.ref a]) rfl rfl rfl (Nat.le_of_ble_eq_true rfl) (Nat.le_of_ble_eq_true rfl) (f_M_isIn sp (d + 1) N S1 p2 0 3 _ hv18) ?_
    refine pE_br (v18 = 0) rfl rfl (fun c19 => ?_) (fun c19 => ?_)
    · rw [if_pos c19] at h
      exact f_M_cable_23 sp d N a p0 p1 p2 a S17 _ h
    · rw [if_neg c19] at h
      refine pE_jump 2 (pc' := 24) (ls' := [some (.ref a), some (.int p0), some (.int p1), some (.int p2), none]) (st' := [.int 0, .ref a]) (fun _ => rfl) ?_
      exact f_M_cable_24 sp d N a p0 p1 p2 0 a S17 _ h
def F_M_isPair_35 (N : Nat)  (t0 : Int32) (S : pm_S) : Option (Int32 × pm_S) :=
    if t0 = 0 ∨ t0 = 1 then some (t0, S) else none
set_option maxHeartbeats 4000000 in
set_option maxRecDepth 20000 in
theorem f_M_isPair_35 (sp : pm_I → List Value → pm_S → pm_O → Prop) (d N : Nat)  (t0 : Int32) (S : pm_S)  (r : (Int32 × pm_S)) (h : F_M_isPair_35 N  t0 S = some r) : pmE pG (pm_rel pG sp (d + 2)) mi_M_isPair 35 [none, none, none, none] [.int t0] S (some (.int r.1), r.2) := by
  unfold F_M_isPair_35 at h
  by_cases c3 : t0 = 0 ∨ t0 = 1
  · rw [if_pos c3] at h
    cases h
    exact pE_ret rfl (if_pos c3) rfl
  · rw [if_neg c3] at h
    cases h
def F_M_isPair_34 (N : Nat)   (S : pm_S) : Option (Int32 × pm_S) :=
    F_M_isPair_35 N 0 S
set_option maxHeartbeats 4000000 in
set_option maxRecDepth 20000 in
theorem f_M_isPair_34 (sp : pm_I → List Value → pm_S → pm_O → Prop) (d N : Nat)   (S : pm_S)  (r : (Int32 × pm_S)) (h : F_M_isPair_34 N   S = some r) : pmE pG (pm_rel pG sp (d + 2)) mi_M_isPair 34 [none, none, none, none] [] S (some (.int r.1), r.2) := by
  unfold F_M_isPair_34 at h
  refine pE_jump 1 (pc' := 35) (ls' := [none, none, none, none]) (st' := [.int 0]) (fun _ => rfl) ?_
  exact f_M_isPair_35 sp d N 0 S _ h
def F_M_isPair (N : Nat) (S : pm_S) (a : Nat) (p0 : Int32) (p1 : Int32) (p2 : Int32) : Option (Int32 × pm_S) :=
    if rcv S a 11 = true then
    ((F_M_isCable N S a p0 p1).bind fun (v2, S1) =>
    if v2 = 0 then
    F_M_isPair_34 N S1
    else
    ((oR S1 a 11 10).bind fun oq4 => match oq4 with
    | none => none
    | some q4 =>
    (aI [0, 6] S1 q4 ((7 * p0) + p1)).bind fun v5 =>
    (F_M_isIn N S1 p2 0 (v5 - 1)).bind fun (v7, S6) =>
    if v7 = 0 then
    F_M_isPair_34 N S6
    else
    F_M_isPair_35 N 1 S6))
    else none
theorem g_M_isPair {N : Nat} {S : pm_S} {a : Nat} {p0 : Int32} {p1 : Int32} {p2 : Int32} {r : (Int32 × pm_S)} (h : F_M_isPair N S a p0 p1 p2 = some r) : rcv S a 11 = true := by
  unfold F_M_isPair at h
  by_cases c : rcv S a 11 = true
  · exact c
  · rw [if_neg c] at h; cases h
set_option maxHeartbeats 4000000 in
set_option maxRecDepth 20000 in
theorem f_M_isPair (sp : pm_I → List Value → pm_S → pm_O → Prop) (d N : Nat) (S : pm_S) (a : Nat) (p0 : Int32) (p1 : Int32) (p2 : Int32) (r : (Int32 × pm_S)) (h : F_M_isPair N S a p0 p1 p2 = some r) : pm_rel pG sp (d + 3) mi_M_isPair [.ref a, .int p0, .int p1, .int p2] S (some (.int r.1), r.2) := by
  have hg := g_M_isPair h
  unfold F_M_isPair at h
  rw [if_pos hg] at h
  refine pE_rel (d := d + 2) ?_
  show pmE pG _ mi_M_isPair 0 [some (.ref a), some (.int p0), some (.int p1), some (.int p2)] [] S _
  refine pE_jump 3 (pc' := 3) (ls' := [some (.ref a), some (.int p0), some (.int p1), some (.int p2)]) (st' := [.int p1, .int p0, .ref a]) (fun _ => rfl) ?_
  obtain ⟨⟨v2, S1⟩, hv2, h⟩ := obind h
  try dsimp only at h
  refine pE_iv (Bs := [.int p0, .int p1]) (st := []) 1 rfl (Or.inl ⟨rfl, rfl⟩) rfl rfl (Nat.le_of_ble_eq_true rfl) (Nat.le_of_ble_eq_true rfl) (g_M_isCable hv2) (f_M_isCable sp d N S a p0 p1 _ hv2) ?_
  refine pE_br (v2 = 0) rfl rfl (fun c9 => ?_) (fun c9 => ?_)
  · rw [if_pos c9] at h
    refine pE_weak [none, none, none, none] trivial ?_
    exact f_M_isPair_34 sp d N S1 _ h
  · rw [if_neg c9] at h
    refine pE_jump 3 (pc' := 12) (ls' := [some (.ref a), some (.int p0), some (.int p1), some (.int p2)]) (st' := [.ref a, .int 0, .int p2]) (fun _ => rfl) ?_
    obtain ⟨oq4, hq4, h⟩ := obind h
    cases oq4 with
    | none => cases h
    | some q4 =>
      try dsimp only at h
      refine pE_gfS rfl rfl hq4 ?_
      refine pE_jump 5 (pc' := 21) (ls' := [some (.ref a), some (.int p0), some (.int p1), some (.int p2)]) (st' := [.int ((7 * p0) + p1), .ref q4, .int 0, .int p2]) (fun _ => rfl) ?_
      obtain ⟨v5, hv5, h⟩ := obind h
      refine pE_aI rfl rfl hv5 ?_
      refine pE_jump 2 (pc' := 24) (ls' := [some (.ref a), some (.int p0), some (.int p1), some (.int p2)]) (st' := [.int (v5 - 1), .int 0, .int p2]) (fun _ => rfl) ?_
      obtain ⟨⟨v7, S6⟩, hv7, h⟩ := obind h
      try dsimp only at h
      refine pE_is (Bs := [.int p2, .int 0, .int (v5 - 1)]) (st := []) rfl rfl rfl (Nat.le_of_ble_eq_true rfl) (Nat.le_of_ble_eq_true rfl) (f_M_isIn sp (d + 1) N S1 p2 0 (v5 - 1) _ hv7) ?_
      refine pE_br (v7 = 0) rfl rfl (fun c8 => ?_) (fun c8 => ?_)
      · rw [if_pos c8] at h
        refine pE_weak [none, none, none, none] trivial ?_
        exact f_M_isPair_34 sp d N S6 _ h
      · rw [if_neg c8] at h
        refine pE_jump 2 (pc' := 35) (ls' := [some (.ref a), some (.int p0), some (.int p1), some (.int p2)]) (st' := [.int 1]) (fun _ => rfl) ?_
        refine pE_weak [none, none, none, none] trivial ?_
        exact f_M_isPair_35 sp d N 1 S6 _ h
def F_M_slip_44 (N : Nat)   (S : pm_S) : Option (Int32 × pm_S) :=
    some ((-1), S)
set_option maxHeartbeats 4000000 in
set_option maxRecDepth 20000 in
theorem f_M_slip_44 (sp : pm_I → List Value → pm_S → pm_O → Prop) (d N : Nat)   (S : pm_S)  (r : (Int32 × pm_S)) (h : F_M_slip_44 N   S = some r) : pmE pG (pm_rel pG sp (d + 3)) mi_M_slip 44 [none, none, none, none, none, none, none] [] S (some (.int r.1), r.2) := by
  unfold F_M_slip_44 at h
  refine pE_jump 1 (pc' := 45) (ls' := [none, none, none, none, none, none, none]) (st' := [.int (-1)]) (fun _ => rfl) ?_
  cases h
  exact pE_ret rfl rfl rfl
def F_M_slip_102 (N : Nat)   (S : pm_S) : Option (Int32 × pm_S) :=
    some ((-1), S)
set_option maxHeartbeats 4000000 in
set_option maxRecDepth 20000 in
theorem f_M_slip_102 (sp : pm_I → List Value → pm_S → pm_O → Prop) (d N : Nat)   (S : pm_S)  (r : (Int32 × pm_S)) (h : F_M_slip_102 N   S = some r) : pmE pG (pm_rel pG sp (d + 3)) mi_M_slip 102 [none, none, none, none, none, none, none] [] S (some (.int r.1), r.2) := by
  unfold F_M_slip_102 at h
  refine pE_jump 1 (pc' := 103) (ls' := [none, none, none, none, none, none, none]) (st' := [.int (-1)]) (fun _ => rfl) ?_
  cases h
  exact pE_ret rfl rfl rfl
def F_M_slip_104 (N : Nat)  (x0 : Nat) (x1 : Int32) (x2 : Int32) (x3 : Int32) (x4 : Int32) (x5 : Int32) (x6 : Int32) (S : pm_S) : Option (Int32 × pm_S) :=
    (F_M_tell N S x0 x1 x2 x3 x4 x5 x6).bind fun S16 =>
    (oR S16 x0 11 18).bind fun oq17 => match oq17 with
    | none => none
    | some q17 =>
    (aI [0, 6] S16 q17 x1).bind fun v18 =>
    (sI [0] S16 q17 x1 (v18 + 1)).bind fun S19 =>
    (oR S19 x0 11 18).bind fun oq20 => match oq20 with
    | none => none
    | some q20 =>
    (aI [0, 6] S19 q20 x1).bind fun v21 =>
    some (v21 - 1, S19)
set_option maxHeartbeats 4000000 in
set_option maxRecDepth 20000 in
theorem f_M_slip_104 (sp : pm_I → List Value → pm_S → pm_O → Prop) (d N : Nat)  (x0 : Nat) (x1 : Int32) (x2 : Int32) (x3 : Int32) (x4 : Int32) (x5 : Int32) (x6 : Int32) (S : pm_S)  (r : (Int32 × pm_S)) (h : F_M_slip_104 N  x0 x1 x2 x3 x4 x5 x6 S = some r) : pmE pG (pm_rel pG sp (d + 3)) mi_M_slip 104 [some (.ref x0), some (.int x1), some (.int x2), some (.int x3), some (.int x4), some (.int x5), some (.int x6)] [] S (some (.int r.1), r.2) := by
  unfold F_M_slip_104 at h
  refine pE_jump 7 (pc' := 114) (ls' := [some (.ref x0), some (.int x1), some (.int x2), some (.int x3), some (.int x4), some (.int x5), some (.int x6)]) (st' := [.int x6, .int x5, .int x4, .int x3, .int x2, .int x1, .ref x0]) (fun _ => rfl) ?_
  obtain ⟨S16, hS16, h⟩ := obind h
  refine pE_iv (Bs := [.int x1, .int x2, .int x3, .int x4, .int x5, .int x6]) (st := []) 1 rfl (Or.inl ⟨rfl, rfl⟩) rfl rfl (Nat.le_of_ble_eq_true rfl) (Nat.le_of_ble_eq_true rfl) (g_M_tell hS16) (f_M_tell sp (d + 2) N S x0 x1 x2 x3 x4 x5 x6 _ hS16) ?_
  refine pE_jump 1 (pc' := 118) (ls' := [some (.ref x0), some (.int x1), some (.int x2), some (.int x3), some (.int x4), some (.int x5), some (.int x6)]) (st' := [.ref x0]) (fun _ => rfl) ?_
  obtain ⟨oq17, hq17, h⟩ := obind h
  cases oq17 with
  | none => cases h
  | some q17 =>
    try dsimp only at h
    refine pE_gfS rfl rfl hq17 ?_
    refine pE_jump 2 (pc' := 123) (ls' := [some (.ref x0), some (.int x1), some (.int x2), some (.int x3), some (.int x4), some (.int x5), some (.int x6)]) (st' := [.int x1, .ref q17, .int x1, .ref q17]) (fun _ => rfl) ?_
    obtain ⟨v18, hv18, h⟩ := obind h
    refine pE_aI rfl rfl hv18 ?_
    refine pE_jump 2 (pc' := 126) (ls' := [some (.ref x0), some (.int x1), some (.int x2), some (.int x3), some (.int x4), some (.int x5), some (.int x6)]) (st' := [.int (v18 + 1), .int x1, .ref q17]) (fun _ => rfl) ?_
    obtain ⟨S19, hS19, h⟩ := obind h
    refine pE_sI rfl rfl hS19 ?_
    refine pE_jump 1 (pc' := 128) (ls' := [some (.ref x0), some (.int x1), some (.int x2), some (.int x3), some (.int x4), some (.int x5), some (.int x6)]) (st' := [.ref x0]) (fun _ => rfl) ?_
    obtain ⟨oq20, hq20, h⟩ := obind h
    cases oq20 with
    | none => cases h
    | some q20 =>
      try dsimp only at h
      refine pE_gfS rfl rfl hq20 ?_
      refine pE_jump 1 (pc' := 132) (ls' := [some (.ref x0), some (.int x1), some (.int x2), some (.int x3), some (.int x4), some (.int x5), some (.int x6)]) (st' := [.int x1, .ref q20]) (fun _ => rfl) ?_
      obtain ⟨v21, hv21, h⟩ := obind h
      refine pE_aI rfl rfl hv21 ?_
      refine pE_jump 2 (pc' := 135) (ls' := [some (.ref x0), some (.int x1), some (.int x2), some (.int x3), some (.int x4), some (.int x5), some (.int x6)]) (st' := [.int (v21 - 1)]) (fun _ => rfl) ?_
      cases h
      exact pE_ret rfl rfl rfl
def F_M_slip (N : Nat) (S : pm_S) (a : Nat) (p0 : Int32) (p1 : Int32) (p2 : Int32) (p3 : Int32) (p4 : Int32) (p5 : Int32) : Option (Int32 × pm_S) :=
    if rcv S a 11 = true then
    ((wF S a 11 0 .int (.int 0)).bind fun S1 =>
    (F_M_isPlan N S1 a p0).bind fun (v3, S2) =>
    if v3 = 0 then
    F_M_slip_44 N S2
    else
    ((oR S2 a 11 18).bind fun oq4 => match oq4 with
    | none => none
    | some q4 =>
    (aI [0, 6] S2 q4 p0).bind fun v5 =>
    if v5 = 6 then
    F_M_slip_44 N S2
    else
    ((F_M_isIn N S2 p1 0 1).bind fun (v7, S6) =>
    if v7 = 0 then
    F_M_slip_44 N S6
    else
    ((F_M_isPair N S6 a p0 p2 p3).bind fun (v9, S8) =>
    if v9 = 0 then
    F_M_slip_44 N S8
    else
    (if p1 = 0 then
    ((F_M_isPair N S8 a p0 p4 p5).bind fun (v11, S10) =>
    if v11 = 0 then
    F_M_slip_102 N S10
    else
    ((oR S10 a 11 8).bind fun oq12 => match oq12 with
    | none => none
    | some q12 =>
    (aI [0, 6] S10 q12 ((7 * p0) + p4)).bind fun v13 =>
    (oR S10 a 11 9).bind fun oq14 => match oq14 with
    | none => none
    | some q14 =>
    (aI [0, 6] S10 q14 ((7 * p0) + p2)).bind fun v15 =>
    if v13 = v15 then
    F_M_slip_104 N a p0 p1 p2 p3 p4 p5 S10
    else
    F_M_slip_102 N S10))
    else
    ((F_M_isIn N S8 p4 0 9).bind fun (v25, S24) =>
    if v25 = 0 then
    F_M_slip_102 N S24
    else
    F_M_slip_104 N a p0 p1 p2 p3 p4 p5 S24))))))
    else none
theorem g_M_slip {N : Nat} {S : pm_S} {a : Nat} {p0 : Int32} {p1 : Int32} {p2 : Int32} {p3 : Int32} {p4 : Int32} {p5 : Int32} {r : (Int32 × pm_S)} (h : F_M_slip N S a p0 p1 p2 p3 p4 p5 = some r) : rcv S a 11 = true := by
  unfold F_M_slip at h
  by_cases c : rcv S a 11 = true
  · exact c
  · rw [if_neg c] at h; cases h
set_option maxHeartbeats 4000000 in
set_option maxRecDepth 20000 in
theorem f_M_slip (sp : pm_I → List Value → pm_S → pm_O → Prop) (d N : Nat) (S : pm_S) (a : Nat) (p0 : Int32) (p1 : Int32) (p2 : Int32) (p3 : Int32) (p4 : Int32) (p5 : Int32) (r : (Int32 × pm_S)) (h : F_M_slip N S a p0 p1 p2 p3 p4 p5 = some r) : pm_rel pG sp (d + 4) mi_M_slip [.ref a, .int p0, .int p1, .int p2, .int p3, .int p4, .int p5] S (some (.int r.1), r.2) := by
  have hg := g_M_slip h
  unfold F_M_slip at h
  rw [if_pos hg] at h
  refine pE_rel (d := d + 3) ?_
  show pmE pG _ mi_M_slip 0 [some (.ref a), some (.int p0), some (.int p1), some (.int p2), some (.int p3), some (.int p4), some (.int p5)] [] S _
  refine pE_jump 2 (pc' := 2) (ls' := [some (.ref a), some (.int p0), some (.int p1), some (.int p2), some (.int p3), some (.int p4), some (.int p5)]) (st' := [.int 0, .ref a]) (fun _ => rfl) ?_
  obtain ⟨S1, hS1, h⟩ := obind h
  refine pE_pf rfl rfl rfl hS1 ?_
  refine pE_jump 2 (pc' := 7) (ls' := [some (.ref a), some (.int p0), some (.int p1), some (.int p2), some (.int p3), some (.int p4), some (.int p5)]) (st' := [.int p0, .ref a]) (fun _ => rfl) ?_
  obtain ⟨⟨v3, S2⟩, hv3, h⟩ := obind h
  try dsimp only at h
  refine pE_iv (Bs := [.int p0]) (st := []) 1 rfl (Or.inl ⟨rfl, rfl⟩) rfl rfl (Nat.le_of_ble_eq_true rfl) (Nat.le_of_ble_eq_true rfl) (g_M_isPlan hv3) (f_M_isPlan sp (d + 2) N S1 a p0 _ hv3) ?_
  refine pE_br (v3 = 0) rfl rfl (fun c31 => ?_) (fun c31 => ?_)
  · rw [if_pos c31] at h
    refine pE_weak [none, none, none, none, none, none, none] trivial ?_
    exact f_M_slip_44 sp d N S2 _ h
  · rw [if_neg c31] at h
    refine pE_jump 1 (pc' := 14) (ls' := [some (.ref a), some (.int p0), some (.int p1), some (.int p2), some (.int p3), some (.int p4), some (.int p5)]) (st' := [.ref a]) (fun _ => rfl) ?_
    obtain ⟨oq4, hq4, h⟩ := obind h
    cases oq4 with
    | none => cases h
    | some q4 =>
      try dsimp only at h
      refine pE_gfS rfl rfl hq4 ?_
      refine pE_jump 1 (pc' := 18) (ls' := [some (.ref a), some (.int p0), some (.int p1), some (.int p2), some (.int p3), some (.int p4), some (.int p5)]) (st' := [.int p0, .ref q4]) (fun _ => rfl) ?_
      obtain ⟨v5, hv5, h⟩ := obind h
      refine pE_aI rfl rfl hv5 ?_
      refine pE_jump 1 (pc' := 21) (ls' := [some (.ref a), some (.int p0), some (.int p1), some (.int p2), some (.int p3), some (.int p4), some (.int p5)]) (st' := [.int 6, .int v5]) (fun _ => rfl) ?_
      refine pE_br (v5 = 6) rfl rfl (fun c30 => ?_) (fun c30 => ?_)
      · rw [if_pos c30] at h
        refine pE_weak [none, none, none, none, none, none, none] trivial ?_
        exact f_M_slip_44 sp d N S2 _ h
      · rw [if_neg c30] at h
        refine pE_jump 3 (pc' := 27) (ls' := [some (.ref a), some (.int p0), some (.int p1), some (.int p2), some (.int p3), some (.int p4), some (.int p5)]) (st' := [.int 1, .int 0, .int p1]) (fun _ => rfl) ?_
        obtain ⟨⟨v7, S6⟩, hv7, h⟩ := obind h
        try dsimp only at h
        refine pE_is (Bs := [.int p1, .int 0, .int 1]) (st := []) rfl rfl rfl (Nat.le_of_ble_eq_true rfl) (Nat.le_of_ble_eq_true rfl) (f_M_isIn sp (d + 2) N S2 p1 0 1 _ hv7) ?_
        refine pE_br (v7 = 0) rfl rfl (fun c29 => ?_) (fun c29 => ?_)
        · rw [if_pos c29] at h
          refine pE_weak [none, none, none, none, none, none, none] trivial ?_
          exact f_M_slip_44 sp d N S6 _ h
        · rw [if_neg c29] at h
          refine pE_jump 4 (pc' := 38) (ls' := [some (.ref a), some (.int p0), some (.int p1), some (.int p2), some (.int p3), some (.int p4), some (.int p5)]) (st' := [.int p3, .int p2, .int p0, .ref a]) (fun _ => rfl) ?_
          obtain ⟨⟨v9, S8⟩, hv9, h⟩ := obind h
          try dsimp only at h
          refine pE_iv (Bs := [.int p0, .int p2, .int p3]) (st := []) 1 rfl (Or.inl ⟨rfl, rfl⟩) rfl rfl (Nat.le_of_ble_eq_true rfl) (Nat.le_of_ble_eq_true rfl) (g_M_isPair hv9) (f_M_isPair sp d N S6 a p0 p2 p3 _ hv9) ?_
          refine pE_br (¬ v9 = 0) rfl rfl (fun c28 => ?_) (fun c28 => ?_)
          · rw [if_neg c28] at h
            refine pE_jump 1 (pc' := 47) (ls' := [some (.ref a), some (.int p0), some (.int p1), some (.int p2), some (.int p3), some (.int p4), some (.int p5)]) (st' := [.int p1]) (fun _ => rfl) ?_
            refine pE_br (¬ p1 = 0) rfl rfl (fun c27 => ?_) (fun c27 => ?_)
            · rw [if_neg c27] at h
              refine pE_jump 3 (pc' := 96) (ls' := [some (.ref a), some (.int p0), some (.int p1), some (.int p2), some (.int p3), some (.int p4), some (.int p5)]) (st' := [.int 9, .int 0, .int p4]) (fun _ => rfl) ?_
              obtain ⟨⟨v25, S24⟩, hv25, h⟩ := obind h
              try dsimp only at h
              refine pE_is (Bs := [.int p4, .int 0, .int 9]) (st := []) rfl rfl rfl (Nat.le_of_ble_eq_true rfl) (Nat.le_of_ble_eq_true rfl) (f_M_isIn sp (d + 2) N S8 p4 0 9 _ hv25) ?_
              refine pE_br (¬ v25 = 0) rfl rfl (fun c26 => ?_) (fun c26 => ?_)
              · rw [if_neg c26] at h
                exact f_M_slip_104 sp d N a p0 p1 p2 p3 p4 p5 S24 _ h
              · have c26 := Decidable.not_not.mp c26
                rw [if_pos c26] at h
                refine pE_weak [none, none, none, none, none, none, none] trivial ?_
                exact f_M_slip_102 sp d N S24 _ h
            · have c27 := Decidable.not_not.mp c27
              rw [if_pos c27] at h
              refine pE_jump 4 (pc' := 56) (ls' := [some (.ref a), some (.int p0), some (.int p1), some (.int p2), some (.int p3), some (.int p4), some (.int p5)]) (st' := [.int p5, .int p4, .int p0, .ref a]) (fun _ => rfl) ?_
              obtain ⟨⟨v11, S10⟩, hv11, h⟩ := obind h
              try dsimp only at h
              refine pE_iv (Bs := [.int p0, .int p4, .int p5]) (st := []) 1 rfl (Or.inl ⟨rfl, rfl⟩) rfl rfl (Nat.le_of_ble_eq_true rfl) (Nat.le_of_ble_eq_true rfl) (g_M_isPair hv11) (f_M_isPair sp d N S8 a p0 p4 p5 _ hv11) ?_
              refine pE_br (v11 = 0) rfl rfl (fun c23 => ?_) (fun c23 => ?_)
              · rw [if_pos c23] at h
                refine pE_weak [none, none, none, none, none, none, none] trivial ?_
                exact f_M_slip_102 sp d N S10 _ h
              · rw [if_neg c23] at h
                refine pE_jump 1 (pc' := 63) (ls' := [some (.ref a), some (.int p0), some (.int p1), some (.int p2), some (.int p3), some (.int p4), some (.int p5)]) (st' := [.ref a]) (fun _ => rfl) ?_
                obtain ⟨oq12, hq12, h⟩ := obind h
                cases oq12 with
                | none => cases h
                | some q12 =>
                  try dsimp only at h
                  refine pE_gfS rfl rfl hq12 ?_
                  refine pE_jump 5 (pc' := 73) (ls' := [some (.ref a), some (.int p0), some (.int p1), some (.int p2), some (.int p3), some (.int p4), some (.int p5)]) (st' := [.int ((7 * p0) + p4), .ref q12]) (fun _ => rfl) ?_
                  obtain ⟨v13, hv13, h⟩ := obind h
                  refine pE_aI rfl rfl hv13 ?_
                  refine pE_jump 1 (pc' := 75) (ls' := [some (.ref a), some (.int p0), some (.int p1), some (.int p2), some (.int p3), some (.int p4), some (.int p5)]) (st' := [.ref a, .int v13]) (fun _ => rfl) ?_
                  obtain ⟨oq14, hq14, h⟩ := obind h
                  cases oq14 with
                  | none => cases h
                  | some q14 =>
                    try dsimp only at h
                    refine pE_gfS rfl rfl hq14 ?_
                    refine pE_jump 5 (pc' := 84) (ls' := [some (.ref a), some (.int p0), some (.int p1), some (.int p2), some (.int p3), some (.int p4), some (.int p5)]) (st' := [.int ((7 * p0) + p2), .ref q14, .int v13]) (fun _ => rfl) ?_
                    obtain ⟨v15, hv15, h⟩ := obind h
                    refine pE_aI rfl rfl hv15 ?_
                    refine pE_br (v13 = v15) rfl rfl (fun c22 => ?_) (fun c22 => ?_)
                    · rw [if_pos c22] at h
                      exact f_M_slip_104 sp d N a p0 p1 p2 p3 p4 p5 S10 _ h
                    · rw [if_neg c22] at h
                      refine pE_jump 1 (pc' := 102) (ls' := [some (.ref a), some (.int p0), some (.int p1), some (.int p2), some (.int p3), some (.int p4), some (.int p5)]) (st' := []) (fun _ => rfl) ?_
                      refine pE_weak [none, none, none, none, none, none, none] trivial ?_
                      exact f_M_slip_102 sp d N S10 _ h
          · have c28 := Decidable.not_not.mp c28
            rw [if_pos c28] at h
            refine pE_weak [none, none, none, none, none, none, none] trivial ?_
            exact f_M_slip_44 sp d N S8 _ h
