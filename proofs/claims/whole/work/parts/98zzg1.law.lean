def F_Law_law_1547 (cab : pm_S → Nat → Int32 → Int32 → Int32 → Nat → Option (Int32 × pm_S)) (N : Nat) (rec23 : Int32 → pm_S → Option (Int32 × pm_S)) (x0 : Nat) (x1 : Nat) (x2 : Nat) (x3 : Nat) (x4 : Int32) (S : pm_S) : Option (Int32 × pm_S) :=
    (aI [0, 6] S x0 (x4 + 1)).bind fun v113 =>
    (aI [0, 6] S x0 (x4 + 2)).bind fun v114 =>
    (aI [0, 6] S x0 (x4 + 3)).bind fun v115 =>
    if v115 = 0 then
    F_Law_law_1574 cab N rec23 x0 x1 x2 x3 x4 0 v114 v113 x1 S
    else
    F_Law_law_1574 cab N rec23 x0 x1 x2 x3 x4 1 v114 v113 x1 S
set_option maxHeartbeats 4000000 in
set_option maxRecDepth 20000 in
theorem f_Law_law_1547 (cab : pm_S → Nat → Int32 → Int32 → Int32 → Nat → Option (Int32 × pm_S)) (sp : pm_I → List Value → pm_S → pm_O → Prop) (hcab : ∀ S a p0 p1 p2 o r, cab S a p0 p1 p2 o = some r → sp mi_Law_cable [.ref a, .int p0, .int p1, .int p2, .ref o] S (some (.int r.1), r.2)) (d N : Nat) (rec23 : Int32 → pm_S → Option (Int32 × pm_S)) (x0 : Nat) (x1 : Nat) (x2 : Nat) (x3 : Nat) (x4 : Int32) (S : pm_S) (hrec23 : ∀ (y1 : Int32) (U : pm_S) (r : (Int32 × pm_S)), rec23 y1 U = some r → pmE pG (pm_rel pG sp (d + 10)) mi_Law_law 23 [some (.ref x0), some (.ref x1), some (.ref x2), some (.ref x3), some (.int y1), none, none] [] U (some (.int r.1), r.2)) (r : (Int32 × pm_S)) (h : F_Law_law_1547 cab N rec23 x0 x1 x2 x3 x4 S = some r) : pmE pG (pm_rel pG sp (d + 10)) mi_Law_law 1547 [some (.ref x0), some (.ref x1), some (.ref x2), some (.ref x3), some (.int x4), none, none] [] S (some (.int r.1), r.2) := by
  unfold F_Law_law_1547 at h
  refine pE_jump 5 (pc' := 1553) (ls' := [some (.ref x0), some (.ref x1), some (.ref x2), some (.ref x3), some (.int x4), none, none]) (st' := [.int (x4 + 1), .ref x0, .ref x1]) (fun _ => rfl) ?_
  obtain ⟨v113, hv113, h⟩ := obind h
  refine pE_aI rfl rfl hv113 ?_
  refine pE_jump 4 (pc' := 1559) (ls' := [some (.ref x0), some (.ref x1), some (.ref x2), some (.ref x3), some (.int x4), none, none]) (st' := [.int (x4 + 2), .ref x0, .int v113, .ref x1]) (fun _ => rfl) ?_
  obtain ⟨v114, hv114, h⟩ := obind h
  refine pE_aI rfl rfl hv114 ?_
  refine pE_jump 4 (pc' := 1565) (ls' := [some (.ref x0), some (.ref x1), some (.ref x2), some (.ref x3), some (.int x4), none, none]) (st' := [.int (x4 + 3), .ref x0, .int v114, .int v113, .ref x1]) (fun _ => rfl) ?_
  obtain ⟨v115, hv115, h⟩ := obind h
  refine pE_aI rfl rfl hv115 ?_
  refine pE_br (v115 = 0) rfl rfl (fun c127 => ?_) (fun c127 => ?_)
  · rw [if_pos c127] at h
    refine pE_jump 1 (pc' := 1574) (ls' := [some (.ref x0), some (.ref x1), some (.ref x2), some (.ref x3), some (.int x4), none, none]) (st' := [.int 0, .int v114, .int v113, .ref x1]) (fun _ => rfl) ?_
    exact f_Law_law_1574 cab sp hcab d N rec23 x0 x1 x2 x3 x4 0 v114 v113 x1 S hrec23 _ h
  · rw [if_neg c127] at h
    refine pE_jump 2 (pc' := 1574) (ls' := [some (.ref x0), some (.ref x1), some (.ref x2), some (.ref x3), some (.int x4), none, none]) (st' := [.int 1, .int v114, .int v113, .ref x1]) (fun _ => rfl) ?_
    exact f_Law_law_1574 cab sp hcab d N rec23 x0 x1 x2 x3 x4 1 v114 v113 x1 S hrec23 _ h
def F_Law_law_1545 (cab : pm_S → Nat → Int32 → Int32 → Int32 → Nat → Option (Int32 × pm_S)) (N : Nat)   (S : pm_S) : Option (Int32 × pm_S) :=
    some (0, S)
set_option maxHeartbeats 4000000 in
set_option maxRecDepth 20000 in
theorem f_Law_law_1545 (cab : pm_S → Nat → Int32 → Int32 → Int32 → Nat → Option (Int32 × pm_S)) (sp : pm_I → List Value → pm_S → pm_O → Prop) (hcab : ∀ S a p0 p1 p2 o r, cab S a p0 p1 p2 o = some r → sp mi_Law_cable [.ref a, .int p0, .int p1, .int p2, .ref o] S (some (.int r.1), r.2)) (d N : Nat)   (S : pm_S)  (r : (Int32 × pm_S)) (h : F_Law_law_1545 cab N   S = some r) : pmE pG (pm_rel pG sp (d + 10)) mi_Law_law 1545 [none, none, none, none, none, none, none] [] S (some (.int r.1), r.2) := by
  unfold F_Law_law_1545 at h
  refine pE_jump 1 (pc' := 1546) (ls' := [none, none, none, none, none, none, none]) (st' := [.int 0]) (fun _ => rfl) ?_
  cases h
  exact pE_ret rfl rfl rfl
def F_Law_law_1510 (cab : pm_S → Nat → Int32 → Int32 → Int32 → Nat → Option (Int32 × pm_S)) (N : Nat) (rec23 : Int32 → pm_S → Option (Int32 × pm_S)) (x0 : Nat) (x1 : Nat) (x2 : Nat) (x3 : Nat) (x4 : Int32) (S : pm_S) : Option (Int32 × pm_S) :=
    (aI [0, 6] S x0 (x4 + 1)).bind fun v128 =>
    (aI [0, 6] S x0 (x4 + 2)).bind fun v129 =>
    (F_BP_sure N S x1 v128 v129).bind fun (v131, S130) =>
    (aI [0, 6] S130 x0 (x4 + 1)).bind fun v132 =>
    (aI [0, 6] S130 x0 (x4 + 2)).bind fun v133 =>
    (F_M_sure N S130 x2 v132 v133).bind fun (v135, S134) =>
    if v131 = v135 then
    F_Law_law_1958 cab N rec23 x0 x1 x2 x3 x4 S134
    else
    F_Law_law_1545 cab N S134
set_option maxHeartbeats 4000000 in
set_option maxRecDepth 20000 in
theorem f_Law_law_1510 (cab : pm_S → Nat → Int32 → Int32 → Int32 → Nat → Option (Int32 × pm_S)) (sp : pm_I → List Value → pm_S → pm_O → Prop) (hcab : ∀ S a p0 p1 p2 o r, cab S a p0 p1 p2 o = some r → sp mi_Law_cable [.ref a, .int p0, .int p1, .int p2, .ref o] S (some (.int r.1), r.2)) (d N : Nat) (rec23 : Int32 → pm_S → Option (Int32 × pm_S)) (x0 : Nat) (x1 : Nat) (x2 : Nat) (x3 : Nat) (x4 : Int32) (S : pm_S) (hrec23 : ∀ (y1 : Int32) (U : pm_S) (r : (Int32 × pm_S)), rec23 y1 U = some r → pmE pG (pm_rel pG sp (d + 10)) mi_Law_law 23 [some (.ref x0), some (.ref x1), some (.ref x2), some (.ref x3), some (.int y1), none, none] [] U (some (.int r.1), r.2)) (r : (Int32 × pm_S)) (h : F_Law_law_1510 cab N rec23 x0 x1 x2 x3 x4 S = some r) : pmE pG (pm_rel pG sp (d + 10)) mi_Law_law 1510 [some (.ref x0), some (.ref x1), some (.ref x2), some (.ref x3), some (.int x4), none, none] [] S (some (.int r.1), r.2) := by
  unfold F_Law_law_1510 at h
  refine pE_jump 5 (pc' := 1516) (ls' := [some (.ref x0), some (.ref x1), some (.ref x2), some (.ref x3), some (.int x4), none, none]) (st' := [.int (x4 + 1), .ref x0, .ref x1]) (fun _ => rfl) ?_
  obtain ⟨v128, hv128, h⟩ := obind h
  refine pE_aI rfl rfl hv128 ?_
  refine pE_jump 4 (pc' := 1522) (ls' := [some (.ref x0), some (.ref x1), some (.ref x2), some (.ref x3), some (.int x4), none, none]) (st' := [.int (x4 + 2), .ref x0, .int v128, .ref x1]) (fun _ => rfl) ?_
  obtain ⟨v129, hv129, h⟩ := obind h
  refine pE_aI rfl rfl hv129 ?_
  obtain ⟨⟨v131, S130⟩, hv131, h⟩ := obind h
  try dsimp only at h
  refine pE_iv (Bs := [.int v128, .int v129]) (st := []) 1 rfl (Or.inl ⟨rfl, rfl⟩) rfl rfl (Nat.le_of_ble_eq_true rfl) (Nat.le_of_ble_eq_true rfl) (g_BP_sure hv131) (f_BP_sure sp (d + 2) N S x1 v128 v129 _ hv131) ?_
  refine pE_jump 5 (pc' := 1532) (ls' := [some (.ref x0), some (.ref x1), some (.ref x2), some (.ref x3), some (.int x4), none, none]) (st' := [.int (x4 + 1), .ref x0, .ref x2, .int v131]) (fun _ => rfl) ?_
  obtain ⟨v132, hv132, h⟩ := obind h
  refine pE_aI rfl rfl hv132 ?_
  refine pE_jump 4 (pc' := 1538) (ls' := [some (.ref x0), some (.ref x1), some (.ref x2), some (.ref x3), some (.int x4), none, none]) (st' := [.int (x4 + 2), .ref x0, .int v132, .ref x2, .int v131]) (fun _ => rfl) ?_
  obtain ⟨v133, hv133, h⟩ := obind h
  refine pE_aI rfl rfl hv133 ?_
  obtain ⟨⟨v135, S134⟩, hv135, h⟩ := obind h
  try dsimp only at h
  refine pE_iv (Bs := [.int v132, .int v133]) (st := [.int v131]) 1 rfl (Or.inl ⟨rfl, rfl⟩) rfl rfl (Nat.le_of_ble_eq_true rfl) (Nat.le_of_ble_eq_true rfl) (g_M_sure hv135) (f_M_sure sp (d + 1) N S130 x2 v132 v133 _ hv135) ?_
  refine pE_br (v131 = v135) rfl rfl (fun c136 => ?_) (fun c136 => ?_)
  · rw [if_pos c136] at h
    exact f_Law_law_1958 cab sp hcab d N rec23 x0 x1 x2 x3 x4 S134 hrec23 _ h
  · rw [if_neg c136] at h
    refine pE_weak [none, none, none, none, none, none, none] trivial ?_
    exact f_Law_law_1545 cab sp hcab d N S134 _ h
def F_Law_law_1508 (cab : pm_S → Nat → Int32 → Int32 → Int32 → Nat → Option (Int32 × pm_S)) (N : Nat)   (S : pm_S) : Option (Int32 × pm_S) :=
    some (0, S)
set_option maxHeartbeats 4000000 in
set_option maxRecDepth 20000 in
theorem f_Law_law_1508 (cab : pm_S → Nat → Int32 → Int32 → Int32 → Nat → Option (Int32 × pm_S)) (sp : pm_I → List Value → pm_S → pm_O → Prop) (hcab : ∀ S a p0 p1 p2 o r, cab S a p0 p1 p2 o = some r → sp mi_Law_cable [.ref a, .int p0, .int p1, .int p2, .ref o] S (some (.int r.1), r.2)) (d N : Nat)   (S : pm_S)  (r : (Int32 × pm_S)) (h : F_Law_law_1508 cab N   S = some r) : pmE pG (pm_rel pG sp (d + 10)) mi_Law_law 1508 [none, none, none, none, none, none, none] [] S (some (.int r.1), r.2) := by
  unfold F_Law_law_1508 at h
  refine pE_jump 1 (pc' := 1509) (ls' := [none, none, none, none, none, none, none]) (st' := [.int 0]) (fun _ => rfl) ?_
  cases h
  exact pE_ret rfl rfl rfl
def F_Law_law_1485 (cab : pm_S → Nat → Int32 → Int32 → Int32 → Nat → Option (Int32 × pm_S)) (N : Nat) (rec23 : Int32 → pm_S → Option (Int32 × pm_S)) (x0 : Nat) (x1 : Nat) (x2 : Nat) (x3 : Nat) (x4 : Int32) (S : pm_S) : Option (Int32 × pm_S) :=
    (aI [0, 6] S x0 (x4 + 1)).bind fun v137 =>
    (F_BP_fewest N S x1 v137).bind fun (v139, S138) =>
    (aI [0, 6] S138 x0 (x4 + 1)).bind fun v140 =>
    (F_M_fewest N S138 x2 v140).bind fun (v142, S141) =>
    if v139 = v142 then
    F_Law_law_1958 cab N rec23 x0 x1 x2 x3 x4 S141
    else
    F_Law_law_1508 cab N S141
set_option maxHeartbeats 4000000 in
set_option maxRecDepth 20000 in
theorem f_Law_law_1485 (cab : pm_S → Nat → Int32 → Int32 → Int32 → Nat → Option (Int32 × pm_S)) (sp : pm_I → List Value → pm_S → pm_O → Prop) (hcab : ∀ S a p0 p1 p2 o r, cab S a p0 p1 p2 o = some r → sp mi_Law_cable [.ref a, .int p0, .int p1, .int p2, .ref o] S (some (.int r.1), r.2)) (d N : Nat) (rec23 : Int32 → pm_S → Option (Int32 × pm_S)) (x0 : Nat) (x1 : Nat) (x2 : Nat) (x3 : Nat) (x4 : Int32) (S : pm_S) (hrec23 : ∀ (y1 : Int32) (U : pm_S) (r : (Int32 × pm_S)), rec23 y1 U = some r → pmE pG (pm_rel pG sp (d + 10)) mi_Law_law 23 [some (.ref x0), some (.ref x1), some (.ref x2), some (.ref x3), some (.int y1), none, none] [] U (some (.int r.1), r.2)) (r : (Int32 × pm_S)) (h : F_Law_law_1485 cab N rec23 x0 x1 x2 x3 x4 S = some r) : pmE pG (pm_rel pG sp (d + 10)) mi_Law_law 1485 [some (.ref x0), some (.ref x1), some (.ref x2), some (.ref x3), some (.int x4), none, none] [] S (some (.int r.1), r.2) := by
  unfold F_Law_law_1485 at h
  refine pE_jump 5 (pc' := 1491) (ls' := [some (.ref x0), some (.ref x1), some (.ref x2), some (.ref x3), some (.int x4), none, none]) (st' := [.int (x4 + 1), .ref x0, .ref x1]) (fun _ => rfl) ?_
  obtain ⟨v137, hv137, h⟩ := obind h
  refine pE_aI rfl rfl hv137 ?_
  obtain ⟨⟨v139, S138⟩, hv139, h⟩ := obind h
  try dsimp only at h
  refine pE_iv (Bs := [.int v137]) (st := []) 1 rfl (Or.inl ⟨rfl, rfl⟩) rfl rfl (Nat.le_of_ble_eq_true rfl) (Nat.le_of_ble_eq_true rfl) (g_BP_fewest hv139) (f_BP_fewest sp (d + 2) N S x1 v137 _ hv139) ?_
  refine pE_jump 5 (pc' := 1501) (ls' := [some (.ref x0), some (.ref x1), some (.ref x2), some (.ref x3), some (.int x4), none, none]) (st' := [.int (x4 + 1), .ref x0, .ref x2, .int v139]) (fun _ => rfl) ?_
  obtain ⟨v140, hv140, h⟩ := obind h
  refine pE_aI rfl rfl hv140 ?_
  obtain ⟨⟨v142, S141⟩, hv142, h⟩ := obind h
  try dsimp only at h
  refine pE_iv (Bs := [.int v140]) (st := [.int v139]) 1 rfl (Or.inl ⟨rfl, rfl⟩) rfl rfl (Nat.le_of_ble_eq_true rfl) (Nat.le_of_ble_eq_true rfl) (g_M_fewest hv142) (f_M_fewest sp (d + 1) N S138 x2 v140 _ hv142) ?_
  refine pE_br (v139 = v142) rfl rfl (fun c143 => ?_) (fun c143 => ?_)
  · rw [if_pos c143] at h
    exact f_Law_law_1958 cab sp hcab d N rec23 x0 x1 x2 x3 x4 S141 hrec23 _ h
  · rw [if_neg c143] at h
    refine pE_weak [none, none, none, none, none, none, none] trivial ?_
    exact f_Law_law_1508 cab sp hcab d N S141 _ h
def F_Law_law_1483 (cab : pm_S → Nat → Int32 → Int32 → Int32 → Nat → Option (Int32 × pm_S)) (N : Nat)   (S : pm_S) : Option (Int32 × pm_S) :=
    some (0, S)
set_option maxHeartbeats 4000000 in
set_option maxRecDepth 20000 in
theorem f_Law_law_1483 (cab : pm_S → Nat → Int32 → Int32 → Int32 → Nat → Option (Int32 × pm_S)) (sp : pm_I → List Value → pm_S → pm_O → Prop) (hcab : ∀ S a p0 p1 p2 o r, cab S a p0 p1 p2 o = some r → sp mi_Law_cable [.ref a, .int p0, .int p1, .int p2, .ref o] S (some (.int r.1), r.2)) (d N : Nat)   (S : pm_S)  (r : (Int32 × pm_S)) (h : F_Law_law_1483 cab N   S = some r) : pmE pG (pm_rel pG sp (d + 10)) mi_Law_law 1483 [none, none, none, none, none, none, none] [] S (some (.int r.1), r.2) := by
  unfold F_Law_law_1483 at h
  refine pE_jump 1 (pc' := 1484) (ls' := [none, none, none, none, none, none, none]) (st' := [.int 0]) (fun _ => rfl) ?_
  cases h
  exact pE_ret rfl rfl rfl
def F_Law_law_1448 (cab : pm_S → Nat → Int32 → Int32 → Int32 → Nat → Option (Int32 × pm_S)) (N : Nat) (rec23 : Int32 → pm_S → Option (Int32 × pm_S)) (x0 : Nat) (x1 : Nat) (x2 : Nat) (x3 : Nat) (x4 : Int32) (S : pm_S) : Option (Int32 × pm_S) :=
    (aI [0, 6] S x0 (x4 + 1)).bind fun v144 =>
    (aI [0, 6] S x0 (x4 + 2)).bind fun v145 =>
    (F_BP_fitting N S x1 v144 v145).bind fun (v147, S146) =>
    (aI [0, 6] S146 x0 (x4 + 1)).bind fun v148 =>
    (aI [0, 6] S146 x0 (x4 + 2)).bind fun v149 =>
    (F_M_fitting N S146 x2 v148 v149).bind fun (v151, S150) =>
    if v147 = v151 then
    F_Law_law_1958 cab N rec23 x0 x1 x2 x3 x4 S150
    else
    F_Law_law_1483 cab N S150
set_option maxHeartbeats 4000000 in
set_option maxRecDepth 20000 in
theorem f_Law_law_1448 (cab : pm_S → Nat → Int32 → Int32 → Int32 → Nat → Option (Int32 × pm_S)) (sp : pm_I → List Value → pm_S → pm_O → Prop) (hcab : ∀ S a p0 p1 p2 o r, cab S a p0 p1 p2 o = some r → sp mi_Law_cable [.ref a, .int p0, .int p1, .int p2, .ref o] S (some (.int r.1), r.2)) (d N : Nat) (rec23 : Int32 → pm_S → Option (Int32 × pm_S)) (x0 : Nat) (x1 : Nat) (x2 : Nat) (x3 : Nat) (x4 : Int32) (S : pm_S) (hrec23 : ∀ (y1 : Int32) (U : pm_S) (r : (Int32 × pm_S)), rec23 y1 U = some r → pmE pG (pm_rel pG sp (d + 10)) mi_Law_law 23 [some (.ref x0), some (.ref x1), some (.ref x2), some (.ref x3), some (.int y1), none, none] [] U (some (.int r.1), r.2)) (r : (Int32 × pm_S)) (h : F_Law_law_1448 cab N rec23 x0 x1 x2 x3 x4 S = some r) : pmE pG (pm_rel pG sp (d + 10)) mi_Law_law 1448 [some (.ref x0), some (.ref x1), some (.ref x2), some (.ref x3), some (.int x4), none, none] [] S (some (.int r.1), r.2) := by
  unfold F_Law_law_1448 at h
  refine pE_jump 5 (pc' := 1454) (ls' := [some (.ref x0), some (.ref x1), some (.ref x2), some (.ref x3), some (.int x4), none, none]) (st' := [.int (x4 + 1), .ref x0, .ref x1]) (fun _ => rfl) ?_
  obtain ⟨v144, hv144, h⟩ := obind h
  refine pE_aI rfl rfl hv144 ?_
  refine pE_jump 4 (pc' := 1460) (ls' := [some (.ref x0), some (.ref x1), some (.ref x2), some (.ref x3), some (.int x4), none, none]) (st' := [.int (x4 + 2), .ref x0, .int v144, .ref x1]) (fun _ => rfl) ?_
  obtain ⟨v145, hv145, h⟩ := obind h
  refine pE_aI rfl rfl hv145 ?_
  obtain ⟨⟨v147, S146⟩, hv147, h⟩ := obind h
  try dsimp only at h
  refine pE_iv (Bs := [.int v144, .int v145]) (st := []) 1 rfl (Or.inl ⟨rfl, rfl⟩) rfl rfl (Nat.le_of_ble_eq_true rfl) (Nat.le_of_ble_eq_true rfl) (g_BP_fitting hv147) (f_BP_fitting sp (d + 2) N S x1 v144 v145 _ hv147) ?_
  refine pE_jump 5 (pc' := 1470) (ls' := [some (.ref x0), some (.ref x1), some (.ref x2), some (.ref x3), some (.int x4), none, none]) (st' := [.int (x4 + 1), .ref x0, .ref x2, .int v147]) (fun _ => rfl) ?_
  obtain ⟨v148, hv148, h⟩ := obind h
  refine pE_aI rfl rfl hv148 ?_
  refine pE_jump 4 (pc' := 1476) (ls' := [some (.ref x0), some (.ref x1), some (.ref x2), some (.ref x3), some (.int x4), none, none]) (st' := [.int (x4 + 2), .ref x0, .int v148, .ref x2, .int v147]) (fun _ => rfl) ?_
  obtain ⟨v149, hv149, h⟩ := obind h
  refine pE_aI rfl rfl hv149 ?_
  obtain ⟨⟨v151, S150⟩, hv151, h⟩ := obind h
  try dsimp only at h
  refine pE_iv (Bs := [.int v148, .int v149]) (st := [.int v147]) 1 rfl (Or.inl ⟨rfl, rfl⟩) rfl rfl (Nat.le_of_ble_eq_true rfl) (Nat.le_of_ble_eq_true rfl) (g_M_fitting hv151) (f_M_fitting sp (d + 1) N S146 x2 v148 v149 _ hv151) ?_
  refine pE_br (v147 = v151) rfl rfl (fun c152 => ?_) (fun c152 => ?_)
  · rw [if_pos c152] at h
    exact f_Law_law_1958 cab sp hcab d N rec23 x0 x1 x2 x3 x4 S150 hrec23 _ h
  · rw [if_neg c152] at h
    refine pE_weak [none, none, none, none, none, none, none] trivial ?_
    exact f_Law_law_1483 cab sp hcab d N S150 _ h
def F_Law_law_1446 (cab : pm_S → Nat → Int32 → Int32 → Int32 → Nat → Option (Int32 × pm_S)) (N : Nat)   (S : pm_S) : Option (Int32 × pm_S) :=
    some (0, S)
set_option maxHeartbeats 4000000 in
set_option maxRecDepth 20000 in
theorem f_Law_law_1446 (cab : pm_S → Nat → Int32 → Int32 → Int32 → Nat → Option (Int32 × pm_S)) (sp : pm_I → List Value → pm_S → pm_O → Prop) (hcab : ∀ S a p0 p1 p2 o r, cab S a p0 p1 p2 o = some r → sp mi_Law_cable [.ref a, .int p0, .int p1, .int p2, .ref o] S (some (.int r.1), r.2)) (d N : Nat)   (S : pm_S)  (r : (Int32 × pm_S)) (h : F_Law_law_1446 cab N   S = some r) : pmE pG (pm_rel pG sp (d + 10)) mi_Law_law 1446 [none, none, none, none, none, none, none] [] S (some (.int r.1), r.2) := by
  unfold F_Law_law_1446 at h
  refine pE_jump 1 (pc' := 1447) (ls' := [none, none, none, none, none, none, none]) (st' := [.int 0]) (fun _ => rfl) ?_
  cases h
  exact pE_ret rfl rfl rfl
def F_Law_law_1423 (cab : pm_S → Nat → Int32 → Int32 → Int32 → Nat → Option (Int32 × pm_S)) (N : Nat) (rec23 : Int32 → pm_S → Option (Int32 × pm_S)) (x0 : Nat) (x1 : Nat) (x2 : Nat) (x3 : Nat) (x4 : Int32) (S : pm_S) : Option (Int32 × pm_S) :=
    (aI [0, 6] S x0 (x4 + 1)).bind fun v153 =>
    (F_BP_unread N S x1 v153).bind fun (v155, S154) =>
    (aI [0, 6] S154 x0 (x4 + 1)).bind fun v156 =>
    (F_M_unread N S154 x2 v156).bind fun (v158, S157) =>
    if v155 = v158 then
    F_Law_law_1958 cab N rec23 x0 x1 x2 x3 x4 S157
    else
    F_Law_law_1446 cab N S157
set_option maxHeartbeats 4000000 in
set_option maxRecDepth 20000 in
theorem f_Law_law_1423 (cab : pm_S → Nat → Int32 → Int32 → Int32 → Nat → Option (Int32 × pm_S)) (sp : pm_I → List Value → pm_S → pm_O → Prop) (hcab : ∀ S a p0 p1 p2 o r, cab S a p0 p1 p2 o = some r → sp mi_Law_cable [.ref a, .int p0, .int p1, .int p2, .ref o] S (some (.int r.1), r.2)) (d N : Nat) (rec23 : Int32 → pm_S → Option (Int32 × pm_S)) (x0 : Nat) (x1 : Nat) (x2 : Nat) (x3 : Nat) (x4 : Int32) (S : pm_S) (hrec23 : ∀ (y1 : Int32) (U : pm_S) (r : (Int32 × pm_S)), rec23 y1 U = some r → pmE pG (pm_rel pG sp (d + 10)) mi_Law_law 23 [some (.ref x0), some (.ref x1), some (.ref x2), some (.ref x3), some (.int y1), none, none] [] U (some (.int r.1), r.2)) (r : (Int32 × pm_S)) (h : F_Law_law_1423 cab N rec23 x0 x1 x2 x3 x4 S = some r) : pmE pG (pm_rel pG sp (d + 10)) mi_Law_law 1423 [some (.ref x0), some (.ref x1), some (.ref x2), some (.ref x3), some (.int x4), none, none] [] S (some (.int r.1), r.2) := by
  unfold F_Law_law_1423 at h
  refine pE_jump 5 (pc' := 1429) (ls' := [some (.ref x0), some (.ref x1), some (.ref x2), some (.ref x3), some (.int x4), none, none]) (st' := [.int (x4 + 1), .ref x0, .ref x1]) (fun _ => rfl) ?_
  obtain ⟨v153, hv153, h⟩ := obind h
  refine pE_aI rfl rfl hv153 ?_
  obtain ⟨⟨v155, S154⟩, hv155, h⟩ := obind h
  try dsimp only at h
  refine pE_iv (Bs := [.int v153]) (st := []) 1 rfl (Or.inl ⟨rfl, rfl⟩) rfl rfl (Nat.le_of_ble_eq_true rfl) (Nat.le_of_ble_eq_true rfl) (g_BP_unread hv155) (f_BP_unread sp (d + 7) N S x1 v153 _ hv155) ?_
  refine pE_jump 5 (pc' := 1439) (ls' := [some (.ref x0), some (.ref x1), some (.ref x2), some (.ref x3), some (.int x4), none, none]) (st' := [.int (x4 + 1), .ref x0, .ref x2, .int v155]) (fun _ => rfl) ?_
  obtain ⟨v156, hv156, h⟩ := obind h
  refine pE_aI rfl rfl hv156 ?_
  obtain ⟨⟨v158, S157⟩, hv158, h⟩ := obind h
  try dsimp only at h
  refine pE_iv (Bs := [.int v156]) (st := [.int v155]) 1 rfl (Or.inl ⟨rfl, rfl⟩) rfl rfl (Nat.le_of_ble_eq_true rfl) (Nat.le_of_ble_eq_true rfl) (g_M_unread hv158) (f_M_unread sp (d + 8) N S154 x2 v156 _ hv158) ?_
  refine pE_br (v155 = v158) rfl rfl (fun c159 => ?_) (fun c159 => ?_)
  · rw [if_pos c159] at h
    exact f_Law_law_1958 cab sp hcab d N rec23 x0 x1 x2 x3 x4 S157 hrec23 _ h
  · rw [if_neg c159] at h
    refine pE_weak [none, none, none, none, none, none, none] trivial ?_
    exact f_Law_law_1446 cab sp hcab d N S157 _ h
def F_Law_law_1421 (cab : pm_S → Nat → Int32 → Int32 → Int32 → Nat → Option (Int32 × pm_S)) (N : Nat)   (S : pm_S) : Option (Int32 × pm_S) :=
    some (0, S)
set_option maxHeartbeats 4000000 in
set_option maxRecDepth 20000 in
theorem f_Law_law_1421 (cab : pm_S → Nat → Int32 → Int32 → Int32 → Nat → Option (Int32 × pm_S)) (sp : pm_I → List Value → pm_S → pm_O → Prop) (hcab : ∀ S a p0 p1 p2 o r, cab S a p0 p1 p2 o = some r → sp mi_Law_cable [.ref a, .int p0, .int p1, .int p2, .ref o] S (some (.int r.1), r.2)) (d N : Nat)   (S : pm_S)  (r : (Int32 × pm_S)) (h : F_Law_law_1421 cab N   S = some r) : pmE pG (pm_rel pG sp (d + 10)) mi_Law_law 1421 [none, none, none, none, none, none, none] [] S (some (.int r.1), r.2) := by
  unfold F_Law_law_1421 at h
  refine pE_jump 1 (pc' := 1422) (ls' := [none, none, none, none, none, none, none]) (st' := [.int 0]) (fun _ => rfl) ?_
  cases h
  exact pE_ret rfl rfl rfl
def F_Law_law_1409 (cab : pm_S → Nat → Int32 → Int32 → Int32 → Nat → Option (Int32 × pm_S)) (N : Nat) (rec23 : Int32 → pm_S → Option (Int32 × pm_S)) (x0 : Nat) (x1 : Nat) (x2 : Nat) (x3 : Nat) (x4 : Int32) (t0 : Int32) (t1 : Int32) (t2 : Int32) (t3 : Nat) (t4 : Int32) (S : pm_S) : Option (Int32 × pm_S) :=
    (aI [0, 6] S x0 (x4 + 4)).bind fun v169 =>
    (F_M_read N S t3 t2 t1 t0 v169).bind fun (v171, S170) =>
    if t4 = v171 then
    F_Law_law_1958 cab N rec23 x0 x1 x2 x3 x4 S170
    else
    F_Law_law_1421 cab N S170
set_option maxHeartbeats 4000000 in
set_option maxRecDepth 20000 in
theorem f_Law_law_1409 (cab : pm_S → Nat → Int32 → Int32 → Int32 → Nat → Option (Int32 × pm_S)) (sp : pm_I → List Value → pm_S → pm_O → Prop) (hcab : ∀ S a p0 p1 p2 o r, cab S a p0 p1 p2 o = some r → sp mi_Law_cable [.ref a, .int p0, .int p1, .int p2, .ref o] S (some (.int r.1), r.2)) (d N : Nat) (rec23 : Int32 → pm_S → Option (Int32 × pm_S)) (x0 : Nat) (x1 : Nat) (x2 : Nat) (x3 : Nat) (x4 : Int32) (t0 : Int32) (t1 : Int32) (t2 : Int32) (t3 : Nat) (t4 : Int32) (S : pm_S) (hrec23 : ∀ (y1 : Int32) (U : pm_S) (r : (Int32 × pm_S)), rec23 y1 U = some r → pmE pG (pm_rel pG sp (d + 10)) mi_Law_law 23 [some (.ref x0), some (.ref x1), some (.ref x2), some (.ref x3), some (.int y1), none, none] [] U (some (.int r.1), r.2)) (r : (Int32 × pm_S)) (h : F_Law_law_1409 cab N rec23 x0 x1 x2 x3 x4 t0 t1 t2 t3 t4 S = some r) : pmE pG (pm_rel pG sp (d + 10)) mi_Law_law 1409 [some (.ref x0), some (.ref x1), some (.ref x2), some (.ref x3), some (.int x4), none, none] [.int t0, .int t1, .int t2, .ref t3, .int t4] S (some (.int r.1), r.2) := by
  unfold F_Law_law_1409 at h
  refine pE_jump 4 (pc' := 1414) (ls' := [some (.ref x0), some (.ref x1), some (.ref x2), some (.ref x3), some (.int x4), none, none]) (st' := [.int (x4 + 4), .ref x0, .int t0, .int t1, .int t2, .ref t3, .int t4]) (fun _ => rfl) ?_
  obtain ⟨v169, hv169, h⟩ := obind h
  refine pE_aI rfl rfl hv169 ?_
  obtain ⟨⟨v171, S170⟩, hv171, h⟩ := obind h
  try dsimp only at h
  refine pE_iv (Bs := [.int t2, .int t1, .int t0, .int v169]) (st := [.int t4]) 1 rfl (Or.inl ⟨rfl, rfl⟩) rfl rfl (Nat.le_of_ble_eq_true rfl) (Nat.le_of_ble_eq_true rfl) (g_M_read hv171) (f_M_read sp (d + 7) N S t3 t2 t1 t0 v169 _ hv171) ?_
  refine pE_br (t4 = v171) rfl rfl (fun c172 => ?_) (fun c172 => ?_)
  · rw [if_pos c172] at h
    exact f_Law_law_1958 cab sp hcab d N rec23 x0 x1 x2 x3 x4 S170 hrec23 _ h
  · rw [if_neg c172] at h
    refine pE_weak [none, none, none, none, none, none, none] trivial ?_
    exact f_Law_law_1421 cab sp hcab d N S170 _ h
def F_Law_law_1373 (cab : pm_S → Nat → Int32 → Int32 → Int32 → Nat → Option (Int32 × pm_S)) (N : Nat) (rec23 : Int32 → pm_S → Option (Int32 × pm_S)) (x0 : Nat) (x1 : Nat) (x2 : Nat) (x3 : Nat) (x4 : Int32) (t0 : Int32) (t1 : Int32) (t2 : Int32) (t3 : Nat) (S : pm_S) : Option (Int32 × pm_S) :=
    (aI [0, 6] S x0 (x4 + 4)).bind fun v163 =>
    (F_BP_read N S t3 t2 t1 t0 v163).bind fun (v165, S164) =>
    (aI [0, 6] S164 x0 (x4 + 1)).bind fun v166 =>
    (aI [0, 6] S164 x0 (x4 + 2)).bind fun v167 =>
    (aI [0, 6] S164 x0 (x4 + 3)).bind fun v168 =>
    if v168 = 0 then
    F_Law_law_1409 cab N rec23 x0 x1 x2 x3 x4 0 v167 v166 x2 v165 S164
    else
    F_Law_law_1409 cab N rec23 x0 x1 x2 x3 x4 1 v167 v166 x2 v165 S164
set_option maxHeartbeats 4000000 in
set_option maxRecDepth 20000 in
theorem f_Law_law_1373 (cab : pm_S → Nat → Int32 → Int32 → Int32 → Nat → Option (Int32 × pm_S)) (sp : pm_I → List Value → pm_S → pm_O → Prop) (hcab : ∀ S a p0 p1 p2 o r, cab S a p0 p1 p2 o = some r → sp mi_Law_cable [.ref a, .int p0, .int p1, .int p2, .ref o] S (some (.int r.1), r.2)) (d N : Nat) (rec23 : Int32 → pm_S → Option (Int32 × pm_S)) (x0 : Nat) (x1 : Nat) (x2 : Nat) (x3 : Nat) (x4 : Int32) (t0 : Int32) (t1 : Int32) (t2 : Int32) (t3 : Nat) (S : pm_S) (hrec23 : ∀ (y1 : Int32) (U : pm_S) (r : (Int32 × pm_S)), rec23 y1 U = some r → pmE pG (pm_rel pG sp (d + 10)) mi_Law_law 23 [some (.ref x0), some (.ref x1), some (.ref x2), some (.ref x3), some (.int y1), none, none] [] U (some (.int r.1), r.2)) (r : (Int32 × pm_S)) (h : F_Law_law_1373 cab N rec23 x0 x1 x2 x3 x4 t0 t1 t2 t3 S = some r) : pmE pG (pm_rel pG sp (d + 10)) mi_Law_law 1373 [some (.ref x0), some (.ref x1), some (.ref x2), some (.ref x3), some (.int x4), none, none] [.int t0, .int t1, .int t2, .ref t3] S (some (.int r.1), r.2) := by
  unfold F_Law_law_1373 at h
  refine pE_jump 4 (pc' := 1378) (ls' := [some (.ref x0), some (.ref x1), some (.ref x2), some (.ref x3), some (.int x4), none, none]) (st' := [.int (x4 + 4), .ref x0, .int t0, .int t1, .int t2, .ref t3]) (fun _ => rfl) ?_
  obtain ⟨v163, hv163, h⟩ := obind h
  refine pE_aI rfl rfl hv163 ?_
  obtain ⟨⟨v165, S164⟩, hv165, h⟩ := obind h
  try dsimp only at h
  refine pE_iv (Bs := [.int t2, .int t1, .int t0, .int v163]) (st := []) 1 rfl (Or.inl ⟨rfl, rfl⟩) rfl rfl (Nat.le_of_ble_eq_true rfl) (Nat.le_of_ble_eq_true rfl) (g_BP_read hv165) (f_BP_read sp (d + 6) N S t3 t2 t1 t0 v163 _ hv165) ?_
  refine pE_jump 5 (pc' := 1388) (ls' := [some (.ref x0), some (.ref x1), some (.ref x2), some (.ref x3), some (.int x4), none, none]) (st' := [.int (x4 + 1), .ref x0, .ref x2, .int v165]) (fun _ => rfl) ?_
  obtain ⟨v166, hv166, h⟩ := obind h
  refine pE_aI rfl rfl hv166 ?_
  refine pE_jump 4 (pc' := 1394) (ls' := [some (.ref x0), some (.ref x1), some (.ref x2), some (.ref x3), some (.int x4), none, none]) (st' := [.int (x4 + 2), .ref x0, .int v166, .ref x2, .int v165]) (fun _ => rfl) ?_
  obtain ⟨v167, hv167, h⟩ := obind h
  refine pE_aI rfl rfl hv167 ?_
  refine pE_jump 4 (pc' := 1400) (ls' := [some (.ref x0), some (.ref x1), some (.ref x2), some (.ref x3), some (.int x4), none, none]) (st' := [.int (x4 + 3), .ref x0, .int v167, .int v166, .ref x2, .int v165]) (fun _ => rfl) ?_
  obtain ⟨v168, hv168, h⟩ := obind h
  refine pE_aI rfl rfl hv168 ?_
  refine pE_br (v168 = 0) rfl rfl (fun c173 => ?_) (fun c173 => ?_)
  · rw [if_pos c173] at h
    refine pE_jump 1 (pc' := 1409) (ls' := [some (.ref x0), some (.ref x1), some (.ref x2), some (.ref x3), some (.int x4), none, none]) (st' := [.int 0, .int v167, .int v166, .ref x2, .int v165]) (fun _ => rfl) ?_
    exact f_Law_law_1409 cab sp hcab d N rec23 x0 x1 x2 x3 x4 0 v167 v166 x2 v165 S164 hrec23 _ h
  · rw [if_neg c173] at h
    refine pE_jump 2 (pc' := 1409) (ls' := [some (.ref x0), some (.ref x1), some (.ref x2), some (.ref x3), some (.int x4), none, none]) (st' := [.int 1, .int v167, .int v166, .ref x2, .int v165]) (fun _ => rfl) ?_
    exact f_Law_law_1409 cab sp hcab d N rec23 x0 x1 x2 x3 x4 1 v167 v166 x2 v165 S164 hrec23 _ h
def F_Law_law_1346 (cab : pm_S → Nat → Int32 → Int32 → Int32 → Nat → Option (Int32 × pm_S)) (N : Nat) (rec23 : Int32 → pm_S → Option (Int32 × pm_S)) (x0 : Nat) (x1 : Nat) (x2 : Nat) (x3 : Nat) (x4 : Int32) (S : pm_S) : Option (Int32 × pm_S) :=
    (aI [0, 6] S x0 (x4 + 1)).bind fun v160 =>
    (aI [0, 6] S x0 (x4 + 2)).bind fun v161 =>
    (aI [0, 6] S x0 (x4 + 3)).bind fun v162 =>
    if v162 = 0 then
    F_Law_law_1373 cab N rec23 x0 x1 x2 x3 x4 0 v161 v160 x1 S
    else
    F_Law_law_1373 cab N rec23 x0 x1 x2 x3 x4 1 v161 v160 x1 S
set_option maxHeartbeats 4000000 in
set_option maxRecDepth 20000 in
theorem f_Law_law_1346 (cab : pm_S → Nat → Int32 → Int32 → Int32 → Nat → Option (Int32 × pm_S)) (sp : pm_I → List Value → pm_S → pm_O → Prop) (hcab : ∀ S a p0 p1 p2 o r, cab S a p0 p1 p2 o = some r → sp mi_Law_cable [.ref a, .int p0, .int p1, .int p2, .ref o] S (some (.int r.1), r.2)) (d N : Nat) (rec23 : Int32 → pm_S → Option (Int32 × pm_S)) (x0 : Nat) (x1 : Nat) (x2 : Nat) (x3 : Nat) (x4 : Int32) (S : pm_S) (hrec23 : ∀ (y1 : Int32) (U : pm_S) (r : (Int32 × pm_S)), rec23 y1 U = some r → pmE pG (pm_rel pG sp (d + 10)) mi_Law_law 23 [some (.ref x0), some (.ref x1), some (.ref x2), some (.ref x3), some (.int y1), none, none] [] U (some (.int r.1), r.2)) (r : (Int32 × pm_S)) (h : F_Law_law_1346 cab N rec23 x0 x1 x2 x3 x4 S = some r) : pmE pG (pm_rel pG sp (d + 10)) mi_Law_law 1346 [some (.ref x0), some (.ref x1), some (.ref x2), some (.ref x3), some (.int x4), none, none] [] S (some (.int r.1), r.2) := by
  unfold F_Law_law_1346 at h
  refine pE_jump 5 (pc' := 1352) (ls' := [some (.ref x0), some (.ref x1), some (.ref x2), some (.ref x3), some (.int x4), none, none]) (st' := [.int (x4 + 1), .ref x0, .ref x1]) (fun _ => rfl) ?_
  obtain ⟨v160, hv160, h⟩ := obind h
  refine pE_aI rfl rfl hv160 ?_
  refine pE_jump 4 (pc' := 1358) (ls' := [some (.ref x0), some (.ref x1), some (.ref x2), some (.ref x3), some (.int x4), none, none]) (st' := [.int (x4 + 2), .ref x0, .int v160, .ref x1]) (fun _ => rfl) ?_
  obtain ⟨v161, hv161, h⟩ := obind h
  refine pE_aI rfl rfl hv161 ?_
  refine pE_jump 4 (pc' := 1364) (ls' := [some (.ref x0), some (.ref x1), some (.ref x2), some (.ref x3), some (.int x4), none, none]) (st' := [.int (x4 + 3), .ref x0, .int v161, .int v160, .ref x1]) (fun _ => rfl) ?_
  obtain ⟨v162, hv162, h⟩ := obind h
  refine pE_aI rfl rfl hv162 ?_
  refine pE_br (v162 = 0) rfl rfl (fun c174 => ?_) (fun c174 => ?_)
  · rw [if_pos c174] at h
    refine pE_jump 1 (pc' := 1373) (ls' := [some (.ref x0), some (.ref x1), some (.ref x2), some (.ref x3), some (.int x4), none, none]) (st' := [.int 0, .int v161, .int v160, .ref x1]) (fun _ => rfl) ?_
    exact f_Law_law_1373 cab sp hcab d N rec23 x0 x1 x2 x3 x4 0 v161 v160 x1 S hrec23 _ h
  · rw [if_neg c174] at h
    refine pE_jump 2 (pc' := 1373) (ls' := [some (.ref x0), some (.ref x1), some (.ref x2), some (.ref x3), some (.int x4), none, none]) (st' := [.int 1, .int v161, .int v160, .ref x1]) (fun _ => rfl) ?_
    exact f_Law_law_1373 cab sp hcab d N rec23 x0 x1 x2 x3 x4 1 v161 v160 x1 S hrec23 _ h
def F_Law_law_1344 (cab : pm_S → Nat → Int32 → Int32 → Int32 → Nat → Option (Int32 × pm_S)) (N : Nat)   (S : pm_S) : Option (Int32 × pm_S) :=
    some (0, S)
set_option maxHeartbeats 4000000 in
set_option maxRecDepth 20000 in
theorem f_Law_law_1344 (cab : pm_S → Nat → Int32 → Int32 → Int32 → Nat → Option (Int32 × pm_S)) (sp : pm_I → List Value → pm_S → pm_O → Prop) (hcab : ∀ S a p0 p1 p2 o r, cab S a p0 p1 p2 o = some r → sp mi_Law_cable [.ref a, .int p0, .int p1, .int p2, .ref o] S (some (.int r.1), r.2)) (d N : Nat)   (S : pm_S)  (r : (Int32 × pm_S)) (h : F_Law_law_1344 cab N   S = some r) : pmE pG (pm_rel pG sp (d + 10)) mi_Law_law 1344 [none, none, none, none, none, none, none] [] S (some (.int r.1), r.2) := by
  unfold F_Law_law_1344 at h
  refine pE_jump 1 (pc' := 1345) (ls' := [none, none, none, none, none, none, none]) (st' := [.int 0]) (fun _ => rfl) ?_
  cases h
  exact pE_ret rfl rfl rfl
def F_Law_law_1338 (cab : pm_S → Nat → Int32 → Int32 → Int32 → Nat → Option (Int32 × pm_S)) (N : Nat) (rec23 : Int32 → pm_S → Option (Int32 × pm_S)) (x0 : Nat) (x1 : Nat) (x2 : Nat) (x3 : Nat) (x4 : Int32) (t0 : Int32) (t1 : Int32) (t2 : Int32) (t3 : Int32) (t4 : Nat) (t5 : Int32) (S : pm_S) : Option (Int32 × pm_S) :=
    (F_M_tells N S t4 t3 t2 t1 t0).bind fun (v186, S185) =>
    if t5 = v186 then
    F_Law_law_1958 cab N rec23 x0 x1 x2 x3 x4 S185
    else
    F_Law_law_1344 cab N S185
set_option maxHeartbeats 4000000 in
set_option maxRecDepth 20000 in
theorem f_Law_law_1338 (cab : pm_S → Nat → Int32 → Int32 → Int32 → Nat → Option (Int32 × pm_S)) (sp : pm_I → List Value → pm_S → pm_O → Prop) (hcab : ∀ S a p0 p1 p2 o r, cab S a p0 p1 p2 o = some r → sp mi_Law_cable [.ref a, .int p0, .int p1, .int p2, .ref o] S (some (.int r.1), r.2)) (d N : Nat) (rec23 : Int32 → pm_S → Option (Int32 × pm_S)) (x0 : Nat) (x1 : Nat) (x2 : Nat) (x3 : Nat) (x4 : Int32) (t0 : Int32) (t1 : Int32) (t2 : Int32) (t3 : Int32) (t4 : Nat) (t5 : Int32) (S : pm_S) (hrec23 : ∀ (y1 : Int32) (U : pm_S) (r : (Int32 × pm_S)), rec23 y1 U = some r → pmE pG (pm_rel pG sp (d + 10)) mi_Law_law 23 [some (.ref x0), some (.ref x1), some (.ref x2), some (.ref x3), some (.int y1), none, none] [] U (some (.int r.1), r.2)) (r : (Int32 × pm_S)) (h : F_Law_law_1338 cab N rec23 x0 x1 x2 x3 x4 t0 t1 t2 t3 t4 t5 S = some r) : pmE pG (pm_rel pG sp (d + 10)) mi_Law_law 1338 [some (.ref x0), some (.ref x1), some (.ref x2), some (.ref x3), some (.int x4), none, none] [.int t0, .int t1, .int t2, .int t3, .ref t4, .int t5] S (some (.int r.1), r.2) := by
  unfold F_Law_law_1338 at h
  obtain ⟨⟨v186, S185⟩, hv186, h⟩ := obind h
  try dsimp only at h
  refine pE_iv (Bs := [.int t3, .int t2, .int t1, .int t0]) (st := [.int t5]) 1 rfl (Or.inl ⟨rfl, rfl⟩) rfl rfl (Nat.le_of_ble_eq_true rfl) (Nat.le_of_ble_eq_true rfl) (g_M_tells hv186) (f_M_tells sp (d + 2) N S t4 t3 t2 t1 t0 _ hv186) ?_
  refine pE_br (t5 = v186) rfl rfl (fun c187 => ?_) (fun c187 => ?_)
  · rw [if_pos c187] at h
    exact f_Law_law_1958 cab sp hcab d N rec23 x0 x1 x2 x3 x4 S185 hrec23 _ h
  · rw [if_neg c187] at h
    refine pE_weak [none, none, none, none, none, none, none] trivial ?_
    exact f_Law_law_1344 cab sp hcab d N S185 _ h
def F_Law_law_1302 (cab : pm_S → Nat → Int32 → Int32 → Int32 → Nat → Option (Int32 × pm_S)) (N : Nat) (rec23 : Int32 → pm_S → Option (Int32 × pm_S)) (x0 : Nat) (x1 : Nat) (x2 : Nat) (x3 : Nat) (x4 : Int32) (t0 : Int32) (t1 : Int32) (t2 : Int32) (t3 : Int32) (t4 : Nat) (S : pm_S) : Option (Int32 × pm_S) :=
    (F_BP_tells N S t4 t3 t2 t1 t0).bind fun (v180, S179) =>
    (aI [0, 6] S179 x0 (x4 + 1)).bind fun v181 =>
    (aI [0, 6] S179 x0 (x4 + 2)).bind fun v182 =>
    (aI [0, 6] S179 x0 (x4 + 3)).bind fun v183 =>
    (aI [0, 6] S179 x0 (x4 + 4)).bind fun v184 =>
    if v184 = 0 then
    F_Law_law_1338 cab N rec23 x0 x1 x2 x3 x4 0 v183 v182 v181 x2 v180 S179
    else
    F_Law_law_1338 cab N rec23 x0 x1 x2 x3 x4 1 v183 v182 v181 x2 v180 S179
set_option maxHeartbeats 4000000 in
set_option maxRecDepth 20000 in
theorem f_Law_law_1302 (cab : pm_S → Nat → Int32 → Int32 → Int32 → Nat → Option (Int32 × pm_S)) (sp : pm_I → List Value → pm_S → pm_O → Prop) (hcab : ∀ S a p0 p1 p2 o r, cab S a p0 p1 p2 o = some r → sp mi_Law_cable [.ref a, .int p0, .int p1, .int p2, .ref o] S (some (.int r.1), r.2)) (d N : Nat) (rec23 : Int32 → pm_S → Option (Int32 × pm_S)) (x0 : Nat) (x1 : Nat) (x2 : Nat) (x3 : Nat) (x4 : Int32) (t0 : Int32) (t1 : Int32) (t2 : Int32) (t3 : Int32) (t4 : Nat) (S : pm_S) (hrec23 : ∀ (y1 : Int32) (U : pm_S) (r : (Int32 × pm_S)), rec23 y1 U = some r → pmE pG (pm_rel pG sp (d + 10)) mi_Law_law 23 [some (.ref x0), some (.ref x1), some (.ref x2), some (.ref x3), some (.int y1), none, none] [] U (some (.int r.1), r.2)) (r : (Int32 × pm_S)) (h : F_Law_law_1302 cab N rec23 x0 x1 x2 x3 x4 t0 t1 t2 t3 t4 S = some r) : pmE pG (pm_rel pG sp (d + 10)) mi_Law_law 1302 [some (.ref x0), some (.ref x1), some (.ref x2), some (.ref x3), some (.int x4), none, none] [.int t0, .int t1, .int t2, .int t3, .ref t4] S (some (.int r.1), r.2) := by
  unfold F_Law_law_1302 at h
  obtain ⟨⟨v180, S179⟩, hv180, h⟩ := obind h
  try dsimp only at h
  refine pE_iv (Bs := [.int t3, .int t2, .int t1, .int t0]) (st := []) 1 rfl (Or.inl ⟨rfl, rfl⟩) rfl rfl (Nat.le_of_ble_eq_true rfl) (Nat.le_of_ble_eq_true rfl) (g_BP_tells hv180) (f_BP_tells sp (d + 4) N S t4 t3 t2 t1 t0 _ hv180) ?_
  refine pE_jump 5 (pc' := 1311) (ls' := [some (.ref x0), some (.ref x1), some (.ref x2), some (.ref x3), some (.int x4), none, none]) (st' := [.int (x4 + 1), .ref x0, .ref x2, .int v180]) (fun _ => rfl) ?_
  obtain ⟨v181, hv181, h⟩ := obind h
  refine pE_aI rfl rfl hv181 ?_
  refine pE_jump 4 (pc' := 1317) (ls' := [some (.ref x0), some (.ref x1), some (.ref x2), some (.ref x3), some (.int x4), none, none]) (st' := [.int (x4 + 2), .ref x0, .int v181, .ref x2, .int v180]) (fun _ => rfl) ?_
  obtain ⟨v182, hv182, h⟩ := obind h
  refine pE_aI rfl rfl hv182 ?_
  refine pE_jump 4 (pc' := 1323) (ls' := [some (.ref x0), some (.ref x1), some (.ref x2), some (.ref x3), some (.int x4), none, none]) (st' := [.int (x4 + 3), .ref x0, .int v182, .int v181, .ref x2, .int v180]) (fun _ => rfl) ?_
  obtain ⟨v183, hv183, h⟩ := obind h
  refine pE_aI rfl rfl hv183 ?_
  refine pE_jump 4 (pc' := 1329) (ls' := [some (.ref x0), some (.ref x1), some (.ref x2), some (.ref x3), some (.int x4), none, none]) (st' := [.int (x4 + 4), .ref x0, .int v183, .int v182, .int v181, .ref x2, .int v180]) (fun _ => rfl) ?_
  obtain ⟨v184, hv184, h⟩ := obind h
  refine pE_aI rfl rfl hv184 ?_
  refine pE_br (v184 = 0) rfl rfl (fun c188 => ?_) (fun c188 => ?_)
  · rw [if_pos c188] at h
    refine pE_jump 1 (pc' := 1338) (ls' := [some (.ref x0), some (.ref x1), some (.ref x2), some (.ref x3), some (.int x4), none, none]) (st' := [.int 0, .int v183, .int v182, .int v181, .ref x2, .int v180]) (fun _ => rfl) ?_
    exact f_Law_law_1338 cab sp hcab d N rec23 x0 x1 x2 x3 x4 0 v183 v182 v181 x2 v180 S179 hrec23 _ h
  · rw [if_neg c188] at h
    refine pE_jump 2 (pc' := 1338) (ls' := [some (.ref x0), some (.ref x1), some (.ref x2), some (.ref x3), some (.int x4), none, none]) (st' := [.int 1, .int v183, .int v182, .int v181, .ref x2, .int v180]) (fun _ => rfl) ?_
    exact f_Law_law_1338 cab sp hcab d N rec23 x0 x1 x2 x3 x4 1 v183 v182 v181 x2 v180 S179 hrec23 _ h
def F_Law_law_1269 (cab : pm_S → Nat → Int32 → Int32 → Int32 → Nat → Option (Int32 × pm_S)) (N : Nat) (rec23 : Int32 → pm_S → Option (Int32 × pm_S)) (x0 : Nat) (x1 : Nat) (x2 : Nat) (x3 : Nat) (x4 : Int32) (S : pm_S) : Option (Int32 × pm_S) :=
    (aI [0, 6] S x0 (x4 + 1)).bind fun v175 =>
    (aI [0, 6] S x0 (x4 + 2)).bind fun v176 =>
    (aI [0, 6] S x0 (x4 + 3)).bind fun v177 =>
    (aI [0, 6] S x0 (x4 + 4)).bind fun v178 =>
    if v178 = 0 then
    F_Law_law_1302 cab N rec23 x0 x1 x2 x3 x4 0 v177 v176 v175 x1 S
    else
    F_Law_law_1302 cab N rec23 x0 x1 x2 x3 x4 1 v177 v176 v175 x1 S
set_option maxHeartbeats 4000000 in
set_option maxRecDepth 20000 in
theorem f_Law_law_1269 (cab : pm_S → Nat → Int32 → Int32 → Int32 → Nat → Option (Int32 × pm_S)) (sp : pm_I → List Value → pm_S → pm_O → Prop) (hcab : ∀ S a p0 p1 p2 o r, cab S a p0 p1 p2 o = some r → sp mi_Law_cable [.ref a, .int p0, .int p1, .int p2, .ref o] S (some (.int r.1), r.2)) (d N : Nat) (rec23 : Int32 → pm_S → Option (Int32 × pm_S)) (x0 : Nat) (x1 : Nat) (x2 : Nat) (x3 : Nat) (x4 : Int32) (S : pm_S) (hrec23 : ∀ (y1 : Int32) (U : pm_S) (r : (Int32 × pm_S)), rec23 y1 U = some r → pmE pG (pm_rel pG sp (d + 10)) mi_Law_law 23 [some (.ref x0), some (.ref x1), some (.ref x2), some (.ref x3), some (.int y1), none, none] [] U (some (.int r.1), r.2)) (r : (Int32 × pm_S)) (h : F_Law_law_1269 cab N rec23 x0 x1 x2 x3 x4 S = some r) : pmE pG (pm_rel pG sp (d + 10)) mi_Law_law 1269 [some (.ref x0), some (.ref x1), some (.ref x2), some (.ref x3), some (.int x4), none, none] [] S (some (.int r.1), r.2) := by
  unfold F_Law_law_1269 at h
  refine pE_jump 5 (pc' := 1275) (ls' := [some (.ref x0), some (.ref x1), some (.ref x2), some (.ref x3), some (.int x4), none, none]) (st' := [.int (x4 + 1), .ref x0, .ref x1]) (fun _ => rfl) ?_
  obtain ⟨v175, hv175, h⟩ := obind h
  refine pE_aI rfl rfl hv175 ?_
  refine pE_jump 4 (pc' := 1281) (ls' := [some (.ref x0), some (.ref x1), some (.ref x2), some (.ref x3), some (.int x4), none, none]) (st' := [.int (x4 + 2), .ref x0, .int v175, .ref x1]) (fun _ => rfl) ?_
  obtain ⟨v176, hv176, h⟩ := obind h
  refine pE_aI rfl rfl hv176 ?_
  refine pE_jump 4 (pc' := 1287) (ls' := [some (.ref x0), some (.ref x1), some (.ref x2), some (.ref x3), some (.int x4), none, none]) (st' := [.int (x4 + 3), .ref x0, .int v176, .int v175, .ref x1]) (fun _ => rfl) ?_
  obtain ⟨v177, hv177, h⟩ := obind h
  refine pE_aI rfl rfl hv177 ?_
  refine pE_jump 4 (pc' := 1293) (ls' := [some (.ref x0), some (.ref x1), some (.ref x2), some (.ref x3), some (.int x4), none, none]) (st' := [.int (x4 + 4), .ref x0, .int v177, .int v176, .int v175, .ref x1]) (fun _ => rfl) ?_
  obtain ⟨v178, hv178, h⟩ := obind h
  refine pE_aI rfl rfl hv178 ?_
  refine pE_br (v178 = 0) rfl rfl (fun c189 => ?_) (fun c189 => ?_)
  · rw [if_pos c189] at h
    refine pE_jump 1 (pc' := 1302) (ls' := [some (.ref x0), some (.ref x1), some (.ref x2), some (.ref x3), some (.int x4), none, none]) (st' := [.int 0, .int v177, .int v176, .int v175, .ref x1]) (fun _ => rfl) ?_
    exact f_Law_law_1302 cab sp hcab d N rec23 x0 x1 x2 x3 x4 0 v177 v176 v175 x1 S hrec23 _ h
  · rw [if_neg c189] at h
    refine pE_jump 2 (pc' := 1302) (ls' := [some (.ref x0), some (.ref x1), some (.ref x2), some (.ref x3), some (.int x4), none, none]) (st' := [.int 1, .int v177, .int v176, .int v175, .ref x1]) (fun _ => rfl) ?_
    exact f_Law_law_1302 cab sp hcab d N rec23 x0 x1 x2 x3 x4 1 v177 v176 v175 x1 S hrec23 _ h
def F_Law_law_1267 (cab : pm_S → Nat → Int32 → Int32 → Int32 → Nat → Option (Int32 × pm_S)) (N : Nat)   (S : pm_S) : Option (Int32 × pm_S) :=
    some (0, S)
set_option maxHeartbeats 4000000 in
set_option maxRecDepth 20000 in
theorem f_Law_law_1267 (cab : pm_S → Nat → Int32 → Int32 → Int32 → Nat → Option (Int32 × pm_S)) (sp : pm_I → List Value → pm_S → pm_O → Prop) (hcab : ∀ S a p0 p1 p2 o r, cab S a p0 p1 p2 o = some r → sp mi_Law_cable [.ref a, .int p0, .int p1, .int p2, .ref o] S (some (.int r.1), r.2)) (d N : Nat)   (S : pm_S)  (r : (Int32 × pm_S)) (h : F_Law_law_1267 cab N   S = some r) : pmE pG (pm_rel pG sp (d + 10)) mi_Law_law 1267 [none, none, none, none, none, none, none] [] S (some (.int r.1), r.2) := by
  unfold F_Law_law_1267 at h
  refine pE_jump 1 (pc' := 1268) (ls' := [none, none, none, none, none, none, none]) (st' := [.int 0]) (fun _ => rfl) ?_
  cases h
  exact pE_ret rfl rfl rfl
def F_Law_law_1168 (cab : pm_S → Nat → Int32 → Int32 → Int32 → Nat → Option (Int32 × pm_S)) (N : Nat) (rec23 : Int32 → pm_S → Option (Int32 × pm_S)) (x0 : Nat) (x1 : Nat) (x2 : Nat) (x3 : Nat) (x4 : Int32) (S : pm_S) : Option (Int32 × pm_S) :=
    (aI [0, 6] S x0 (x4 + 1)).bind fun v190 =>
    (aI [0, 6] S x0 (x4 + 2)).bind fun v191 =>
    (aI [0, 6] S x0 (x4 + 3)).bind fun v192 =>
    (aI [0, 6] S x0 (x4 + 4)).bind fun v193 =>
    (aI [0, 6] S x0 (x4 + 5)).bind fun v194 =>
    (aI [0, 6] S x0 (x4 + 6)).bind fun v195 =>
    (aI [0, 6] S x0 (x4 + 7)).bind fun v196 =>
    (F_BP_test N S x1 v190 v191 v192 v193 v194 v195 v196).bind fun (v198, S197) =>
    (aI [0, 6] S197 x0 (x4 + 1)).bind fun v199 =>
    (aI [0, 6] S197 x0 (x4 + 2)).bind fun v200 =>
    (aI [0, 6] S197 x0 (x4 + 3)).bind fun v201 =>
    (aI [0, 6] S197 x0 (x4 + 4)).bind fun v202 =>
    (aI [0, 6] S197 x0 (x4 + 5)).bind fun v203 =>
    (aI [0, 6] S197 x0 (x4 + 6)).bind fun v204 =>
    (aI [0, 6] S197 x0 (x4 + 7)).bind fun v205 =>
    (F_M_test N S197 x2 v199 v200 v201 v202 v203 v204 v205).bind fun (v207, S206) =>
    if v198 = v207 then
    F_Law_law_1958 cab N rec23 x0 x1 x2 x3 x4 S206
    else
    F_Law_law_1267 cab N S206
set_option maxHeartbeats 4000000 in
set_option maxRecDepth 20000 in
theorem f_Law_law_1168 (cab : pm_S → Nat → Int32 → Int32 → Int32 → Nat → Option (Int32 × pm_S)) (sp : pm_I → List Value → pm_S → pm_O → Prop) (hcab : ∀ S a p0 p1 p2 o r, cab S a p0 p1 p2 o = some r → sp mi_Law_cable [.ref a, .int p0, .int p1, .int p2, .ref o] S (some (.int r.1), r.2)) (d N : Nat) (rec23 : Int32 → pm_S → Option (Int32 × pm_S)) (x0 : Nat) (x1 : Nat) (x2 : Nat) (x3 : Nat) (x4 : Int32) (S : pm_S) (hrec23 : ∀ (y1 : Int32) (U : pm_S) (r : (Int32 × pm_S)), rec23 y1 U = some r → pmE pG (pm_rel pG sp (d + 10)) mi_Law_law 23 [some (.ref x0), some (.ref x1), some (.ref x2), some (.ref x3), some (.int y1), none, none] [] U (some (.int r.1), r.2)) (r : (Int32 × pm_S)) (h : F_Law_law_1168 cab N rec23 x0 x1 x2 x3 x4 S = some r) : pmE pG (pm_rel pG sp (d + 10)) mi_Law_law 1168 [some (.ref x0), some (.ref x1), some (.ref x2), some (.ref x3), some (.int x4), none, none] [] S (some (.int r.1), r.2) := by
  unfold F_Law_law_1168 at h
  refine pE_jump 5 (pc' := 1174) (ls' := [some (.ref x0), some (.ref x1), some (.ref x2), some (.ref x3), some (.int x4), none, none]) (st' := [.int (x4 + 1), .ref x0, .ref x1]) (fun _ => rfl) ?_
  obtain ⟨v190, hv190, h⟩ := obind h
  refine pE_aI rfl rfl hv190 ?_
  refine pE_jump 4 (pc' := 1180) (ls' := [some (.ref x0), some (.ref x1), some (.ref x2), some (.ref x3), some (.int x4), none, none]) (st' := [.int (x4 + 2), .ref x0, .int v190, .ref x1]) (fun _ => rfl) ?_
  obtain ⟨v191, hv191, h⟩ := obind h
  refine pE_aI rfl rfl hv191 ?_
  refine pE_jump 4 (pc' := 1186) (ls' := [some (.ref x0), some (.ref x1), some (.ref x2), some (.ref x3), some (.int x4), none, none]) (st' := [.int (x4 + 3), .ref x0, .int v191, .int v190, .ref x1]) (fun _ => rfl) ?_
  obtain ⟨v192, hv192, h⟩ := obind h
  refine pE_aI rfl rfl hv192 ?_
  refine pE_jump 4 (pc' := 1192) (ls' := [some (.ref x0), some (.ref x1), some (.ref x2), some (.ref x3), some (.int x4), none, none]) (st' := [.int (x4 + 4), .ref x0, .int v192, .int v191, .int v190, .ref x1]) (fun _ => rfl) ?_
  obtain ⟨v193, hv193, h⟩ := obind h
  refine pE_aI rfl rfl hv193 ?_
  refine pE_jump 4 (pc' := 1198) (ls' := [some (.ref x0), some (.ref x1), some (.ref x2), some (.ref x3), some (.int x4), none, none]) (st' := [.int (x4 + 5), .ref x0, .int v193, .int v192, .int v191, .int v190, .ref x1]) (fun _ => rfl) ?_
  obtain ⟨v194, hv194, h⟩ := obind h
  refine pE_aI rfl rfl hv194 ?_
  refine pE_jump 4 (pc' := 1205) (ls' := [some (.ref x0), some (.ref x1), some (.ref x2), some (.ref x3), some (.int x4), none, none]) (st' := [.int (x4 + 6), .ref x0, .int v194, .int v193, .int v192, .int v191, .int v190, .ref x1]) (fun _ => rfl) ?_
  obtain ⟨v195, hv195, h⟩ := obind h
  refine pE_aI rfl rfl hv195 ?_
  refine pE_jump 4 (pc' := 1212) (ls' := [some (.ref x0), some (.ref x1), some (.ref x2), some (.ref x3), some (.int x4), none, none]) (st' := [.int (x4 + 7), .ref x0, .int v195, .int v194, .int v193, .int v192, .int v191, .int v190, .ref x1]) (fun _ => rfl) ?_
  obtain ⟨v196, hv196, h⟩ := obind h
  refine pE_aI rfl rfl hv196 ?_
  obtain ⟨⟨v198, S197⟩, hv198, h⟩ := obind h
  try dsimp only at h
  refine pE_iv (Bs := [.int v190, .int v191, .int v192, .int v193, .int v194, .int v195, .int v196]) (st := []) 1 rfl (Or.inl ⟨rfl, rfl⟩) rfl rfl (Nat.le_of_ble_eq_true rfl) (Nat.le_of_ble_eq_true rfl) (g_BP_test hv198) (f_BP_test sp (d + 6) N S x1 v190 v191 v192 v193 v194 v195 v196 _ hv198) ?_
  refine pE_jump 5 (pc' := 1222) (ls' := [some (.ref x0), some (.ref x1), some (.ref x2), some (.ref x3), some (.int x4), none, none]) (st' := [.int (x4 + 1), .ref x0, .ref x2, .int v198]) (fun _ => rfl) ?_
  obtain ⟨v199, hv199, h⟩ := obind h
  refine pE_aI rfl rfl hv199 ?_
  refine pE_jump 4 (pc' := 1228) (ls' := [some (.ref x0), some (.ref x1), some (.ref x2), some (.ref x3), some (.int x4), none, none]) (st' := [.int (x4 + 2), .ref x0, .int v199, .ref x2, .int v198]) (fun _ => rfl) ?_
  obtain ⟨v200, hv200, h⟩ := obind h
  refine pE_aI rfl rfl hv200 ?_
  refine pE_jump 4 (pc' := 1234) (ls' := [some (.ref x0), some (.ref x1), some (.ref x2), some (.ref x3), some (.int x4), none, none]) (st' := [.int (x4 + 3), .ref x0, .int v200, .int v199, .ref x2, .int v198]) (fun _ => rfl) ?_
  obtain ⟨v201, hv201, h⟩ := obind h
  refine pE_aI rfl rfl hv201 ?_
  refine pE_jump 4 (pc' := 1240) (ls' := [some (.ref x0), some (.ref x1), some (.ref x2), some (.ref x3), some (.int x4), none, none]) (st' := [.int (x4 + 4), .ref x0, .int v201, .int v200, .int v199, .ref x2, .int v198]) (fun _ => rfl) ?_
  obtain ⟨v202, hv202, h⟩ := obind h
  refine pE_aI rfl rfl hv202 ?_
  refine pE_jump 4 (pc' := 1246) (ls' := [some (.ref x0), some (.ref x1), some (.ref x2), some (.ref x3), some (.int x4), none, none]) (st' := [.int (x4 + 5), .ref x0, .int v202, .int v201, .int v200, .int v199, .ref x2, .int v198]) (fun _ => rfl) ?_
  obtain ⟨v203, hv203, h⟩ := obind h
  refine pE_aI rfl rfl hv203 ?_
  refine pE_jump 4 (pc' := 1253) (ls' := [some (.ref x0), some (.ref x1), some (.ref x2), some (.ref x3), some (.int x4), none, none]) (st' := [.int (x4 + 6), .ref x0, .int v203, .int v202, .int v201, .int v200, .int v199, .ref x2, .int v198]) (fun _ => rfl) ?_
  obtain ⟨v204, hv204, h⟩ := obind h
  refine pE_aI rfl rfl hv204 ?_
  refine pE_jump 4 (pc' := 1260) (ls' := [some (.ref x0), some (.ref x1), some (.ref x2), some (.ref x3), some (.int x4), none, none]) (st' := [.int (x4 + 7), .ref x0, .int v204, .int v203, .int v202, .int v201, .int v200, .int v199, .ref x2, .int v198]) (fun _ => rfl) ?_
  obtain ⟨v205, hv205, h⟩ := obind h
  refine pE_aI rfl rfl hv205 ?_
  obtain ⟨⟨v207, S206⟩, hv207, h⟩ := obind h
  try dsimp only at h
  refine pE_iv (Bs := [.int v199, .int v200, .int v201, .int v202, .int v203, .int v204, .int v205]) (st := [.int v198]) 1 rfl (Or.inl ⟨rfl, rfl⟩) rfl rfl (Nat.le_of_ble_eq_true rfl) (Nat.le_of_ble_eq_true rfl) (g_M_test hv207) (f_M_test sp (d + 6) N S197 x2 v199 v200 v201 v202 v203 v204 v205 _ hv207) ?_
  refine pE_br (v198 = v207) rfl rfl (fun c208 => ?_) (fun c208 => ?_)
  · rw [if_pos c208] at h
    exact f_Law_law_1958 cab sp hcab d N rec23 x0 x1 x2 x3 x4 S206 hrec23 _ h
  · rw [if_neg c208] at h
    refine pE_weak [none, none, none, none, none, none, none] trivial ?_
    exact f_Law_law_1267 cab sp hcab d N S206 _ h
