def F_Law_law_1166 (cab : pm_S → Nat → Int32 → Int32 → Int32 → Nat → Option (Int32 × pm_S)) (N : Nat)   (S : pm_S) : Option (Int32 × pm_S) :=
    some (0, S)
set_option maxHeartbeats 4000000 in
set_option maxRecDepth 20000 in
theorem f_Law_law_1166 (cab : pm_S → Nat → Int32 → Int32 → Int32 → Nat → Option (Int32 × pm_S)) (sp : pm_I → List Value → pm_S → pm_O → Prop) (hcab : ∀ S a p0 p1 p2 o r, cab S a p0 p1 p2 o = some r → sp mi_Law_cable [.ref a, .int p0, .int p1, .int p2, .ref o] S (some (.int r.1), r.2)) (d N : Nat)   (S : pm_S)  (r : (Int32 × pm_S)) (h : F_Law_law_1166 cab N   S = some r) : pmE pG (pm_rel pG sp (d + 10)) mi_Law_law 1166 [none, none, none, none, none, none, none] [] S (some (.int r.1), r.2) := by
  unfold F_Law_law_1166 at h
  refine pE_jump 1 (pc' := 1167) (ls' := [none, none, none, none, none, none, none]) (st' := [.int 0]) (fun _ => rfl) ?_
  cases h
  exact pE_ret rfl rfl rfl
def F_Law_law_1119 (cab : pm_S → Nat → Int32 → Int32 → Int32 → Nat → Option (Int32 × pm_S)) (N : Nat) (rec23 : Int32 → pm_S → Option (Int32 × pm_S)) (x0 : Nat) (x1 : Nat) (x2 : Nat) (x3 : Nat) (x4 : Int32) (S : pm_S) : Option (Int32 × pm_S) :=
    (aI [0, 6] S x0 (x4 + 1)).bind fun v209 =>
    (aI [0, 6] S x0 (x4 + 2)).bind fun v210 =>
    (aI [0, 6] S x0 (x4 + 3)).bind fun v211 =>
    (F_BP_spare N S x1 v209 v210 v211).bind fun (v213, S212) =>
    (aI [0, 6] S212 x0 (x4 + 1)).bind fun v214 =>
    (aI [0, 6] S212 x0 (x4 + 2)).bind fun v215 =>
    (aI [0, 6] S212 x0 (x4 + 3)).bind fun v216 =>
    (F_M_spare N S212 x2 v214 v215 v216).bind fun (v218, S217) =>
    if v213 = v218 then
    F_Law_law_1958 cab N rec23 x0 x1 x2 x3 x4 S217
    else
    F_Law_law_1166 cab N S217
set_option maxHeartbeats 4000000 in
set_option maxRecDepth 20000 in
theorem f_Law_law_1119 (cab : pm_S → Nat → Int32 → Int32 → Int32 → Nat → Option (Int32 × pm_S)) (sp : pm_I → List Value → pm_S → pm_O → Prop) (hcab : ∀ S a p0 p1 p2 o r, cab S a p0 p1 p2 o = some r → sp mi_Law_cable [.ref a, .int p0, .int p1, .int p2, .ref o] S (some (.int r.1), r.2)) (d N : Nat) (rec23 : Int32 → pm_S → Option (Int32 × pm_S)) (x0 : Nat) (x1 : Nat) (x2 : Nat) (x3 : Nat) (x4 : Int32) (S : pm_S) (hrec23 : ∀ (y1 : Int32) (U : pm_S) (r : (Int32 × pm_S)), rec23 y1 U = some r → pmE pG (pm_rel pG sp (d + 10)) mi_Law_law 23 [some (.ref x0), some (.ref x1), some (.ref x2), some (.ref x3), some (.int y1), none, none] [] U (some (.int r.1), r.2)) (r : (Int32 × pm_S)) (h : F_Law_law_1119 cab N rec23 x0 x1 x2 x3 x4 S = some r) : pmE pG (pm_rel pG sp (d + 10)) mi_Law_law 1119 [some (.ref x0), some (.ref x1), some (.ref x2), some (.ref x3), some (.int x4), none, none] [] S (some (.int r.1), r.2) := by
  unfold F_Law_law_1119 at h
  refine pE_jump 5 (pc' := 1125) (ls' := [some (.ref x0), some (.ref x1), some (.ref x2), some (.ref x3), some (.int x4), none, none]) (st' := [.int (x4 + 1), .ref x0, .ref x1]) (fun _ => rfl) ?_
  obtain ⟨v209, hv209, h⟩ := obind h
  refine pE_aI rfl rfl hv209 ?_
  refine pE_jump 4 (pc' := 1131) (ls' := [some (.ref x0), some (.ref x1), some (.ref x2), some (.ref x3), some (.int x4), none, none]) (st' := [.int (x4 + 2), .ref x0, .int v209, .ref x1]) (fun _ => rfl) ?_
  obtain ⟨v210, hv210, h⟩ := obind h
  refine pE_aI rfl rfl hv210 ?_
  refine pE_jump 4 (pc' := 1137) (ls' := [some (.ref x0), some (.ref x1), some (.ref x2), some (.ref x3), some (.int x4), none, none]) (st' := [.int (x4 + 3), .ref x0, .int v210, .int v209, .ref x1]) (fun _ => rfl) ?_
  obtain ⟨v211, hv211, h⟩ := obind h
  refine pE_aI rfl rfl hv211 ?_
  obtain ⟨⟨v213, S212⟩, hv213, h⟩ := obind h
  try dsimp only at h
  refine pE_iv (Bs := [.int v209, .int v210, .int v211]) (st := []) 1 rfl (Or.inl ⟨rfl, rfl⟩) rfl rfl (Nat.le_of_ble_eq_true rfl) (Nat.le_of_ble_eq_true rfl) (g_BP_spare hv213) (f_BP_spare sp (d + 3) N S x1 v209 v210 v211 _ hv213) ?_
  refine pE_jump 5 (pc' := 1147) (ls' := [some (.ref x0), some (.ref x1), some (.ref x2), some (.ref x3), some (.int x4), none, none]) (st' := [.int (x4 + 1), .ref x0, .ref x2, .int v213]) (fun _ => rfl) ?_
  obtain ⟨v214, hv214, h⟩ := obind h
  refine pE_aI rfl rfl hv214 ?_
  refine pE_jump 4 (pc' := 1153) (ls' := [some (.ref x0), some (.ref x1), some (.ref x2), some (.ref x3), some (.int x4), none, none]) (st' := [.int (x4 + 2), .ref x0, .int v214, .ref x2, .int v213]) (fun _ => rfl) ?_
  obtain ⟨v215, hv215, h⟩ := obind h
  refine pE_aI rfl rfl hv215 ?_
  refine pE_jump 4 (pc' := 1159) (ls' := [some (.ref x0), some (.ref x1), some (.ref x2), some (.ref x3), some (.int x4), none, none]) (st' := [.int (x4 + 3), .ref x0, .int v215, .int v214, .ref x2, .int v213]) (fun _ => rfl) ?_
  obtain ⟨v216, hv216, h⟩ := obind h
  refine pE_aI rfl rfl hv216 ?_
  obtain ⟨⟨v218, S217⟩, hv218, h⟩ := obind h
  try dsimp only at h
  refine pE_iv (Bs := [.int v214, .int v215, .int v216]) (st := [.int v213]) 1 rfl (Or.inl ⟨rfl, rfl⟩) rfl rfl (Nat.le_of_ble_eq_true rfl) (Nat.le_of_ble_eq_true rfl) (g_M_spare hv218) (f_M_spare sp (d + 4) N S212 x2 v214 v215 v216 _ hv218) ?_
  refine pE_br (v213 = v218) rfl rfl (fun c219 => ?_) (fun c219 => ?_)
  · rw [if_pos c219] at h
    exact f_Law_law_1958 cab sp hcab d N rec23 x0 x1 x2 x3 x4 S217 hrec23 _ h
  · rw [if_neg c219] at h
    refine pE_weak [none, none, none, none, none, none, none] trivial ?_
    exact f_Law_law_1166 cab sp hcab d N S217 _ h
def F_Law_law_1117 (cab : pm_S → Nat → Int32 → Int32 → Int32 → Nat → Option (Int32 × pm_S)) (N : Nat)   (S : pm_S) : Option (Int32 × pm_S) :=
    some (0, S)
set_option maxHeartbeats 4000000 in
set_option maxRecDepth 20000 in
theorem f_Law_law_1117 (cab : pm_S → Nat → Int32 → Int32 → Int32 → Nat → Option (Int32 × pm_S)) (sp : pm_I → List Value → pm_S → pm_O → Prop) (hcab : ∀ S a p0 p1 p2 o r, cab S a p0 p1 p2 o = some r → sp mi_Law_cable [.ref a, .int p0, .int p1, .int p2, .ref o] S (some (.int r.1), r.2)) (d N : Nat)   (S : pm_S)  (r : (Int32 × pm_S)) (h : F_Law_law_1117 cab N   S = some r) : pmE pG (pm_rel pG sp (d + 10)) mi_Law_law 1117 [none, none, none, none, none, none, none] [] S (some (.int r.1), r.2) := by
  unfold F_Law_law_1117 at h
  refine pE_jump 1 (pc' := 1118) (ls' := [none, none, none, none, none, none, none]) (st' := [.int 0]) (fun _ => rfl) ?_
  cases h
  exact pE_ret rfl rfl rfl
def F_Law_law_1105 (cab : pm_S → Nat → Int32 → Int32 → Int32 → Nat → Option (Int32 × pm_S)) (N : Nat) (rec23 : Int32 → pm_S → Option (Int32 × pm_S)) (x0 : Nat) (x1 : Nat) (x2 : Nat) (x3 : Nat) (x4 : Int32) (t0 : Int32) (t1 : Int32) (t2 : Int32) (t3 : Nat) (t4 : Int32) (S : pm_S) : Option (Int32 × pm_S) :=
    (aI [0, 6] S x0 (x4 + 4)).bind fun v229 =>
    (F_M_neighbours N S t3 t2 t1 t0 v229).bind fun (v231, S230) =>
    if t4 = v231 then
    F_Law_law_1958 cab N rec23 x0 x1 x2 x3 x4 S230
    else
    F_Law_law_1117 cab N S230
set_option maxHeartbeats 4000000 in
set_option maxRecDepth 20000 in
theorem f_Law_law_1105 (cab : pm_S → Nat → Int32 → Int32 → Int32 → Nat → Option (Int32 × pm_S)) (sp : pm_I → List Value → pm_S → pm_O → Prop) (hcab : ∀ S a p0 p1 p2 o r, cab S a p0 p1 p2 o = some r → sp mi_Law_cable [.ref a, .int p0, .int p1, .int p2, .ref o] S (some (.int r.1), r.2)) (d N : Nat) (rec23 : Int32 → pm_S → Option (Int32 × pm_S)) (x0 : Nat) (x1 : Nat) (x2 : Nat) (x3 : Nat) (x4 : Int32) (t0 : Int32) (t1 : Int32) (t2 : Int32) (t3 : Nat) (t4 : Int32) (S : pm_S) (hrec23 : ∀ (y1 : Int32) (U : pm_S) (r : (Int32 × pm_S)), rec23 y1 U = some r → pmE pG (pm_rel pG sp (d + 10)) mi_Law_law 23 [some (.ref x0), some (.ref x1), some (.ref x2), some (.ref x3), some (.int y1), none, none] [] U (some (.int r.1), r.2)) (r : (Int32 × pm_S)) (h : F_Law_law_1105 cab N rec23 x0 x1 x2 x3 x4 t0 t1 t2 t3 t4 S = some r) : pmE pG (pm_rel pG sp (d + 10)) mi_Law_law 1105 [some (.ref x0), some (.ref x1), some (.ref x2), some (.ref x3), some (.int x4), none, none] [.int t0, .int t1, .int t2, .ref t3, .int t4] S (some (.int r.1), r.2) := by
  unfold F_Law_law_1105 at h
  refine pE_jump 4 (pc' := 1110) (ls' := [some (.ref x0), some (.ref x1), some (.ref x2), some (.ref x3), some (.int x4), none, none]) (st' := [.int (x4 + 4), .ref x0, .int t0, .int t1, .int t2, .ref t3, .int t4]) (fun _ => rfl) ?_
  obtain ⟨v229, hv229, h⟩ := obind h
  refine pE_aI rfl rfl hv229 ?_
  obtain ⟨⟨v231, S230⟩, hv231, h⟩ := obind h
  try dsimp only at h
  refine pE_iv (Bs := [.int t2, .int t1, .int t0, .int v229]) (st := [.int t4]) 1 rfl (Or.inl ⟨rfl, rfl⟩) rfl rfl (Nat.le_of_ble_eq_true rfl) (Nat.le_of_ble_eq_true rfl) (g_M_neighbours hv231) (f_M_neighbours sp (d + 5) N S t3 t2 t1 t0 v229 _ hv231) ?_
  refine pE_br (t4 = v231) rfl rfl (fun c232 => ?_) (fun c232 => ?_)
  · rw [if_pos c232] at h
    exact f_Law_law_1958 cab sp hcab d N rec23 x0 x1 x2 x3 x4 S230 hrec23 _ h
  · rw [if_neg c232] at h
    refine pE_weak [none, none, none, none, none, none, none] trivial ?_
    exact f_Law_law_1117 cab sp hcab d N S230 _ h
def F_Law_law_1069 (cab : pm_S → Nat → Int32 → Int32 → Int32 → Nat → Option (Int32 × pm_S)) (N : Nat) (rec23 : Int32 → pm_S → Option (Int32 × pm_S)) (x0 : Nat) (x1 : Nat) (x2 : Nat) (x3 : Nat) (x4 : Int32) (t0 : Int32) (t1 : Int32) (t2 : Int32) (t3 : Nat) (S : pm_S) : Option (Int32 × pm_S) :=
    (aI [0, 6] S x0 (x4 + 4)).bind fun v223 =>
    (F_BP_neighbours N S t3 t2 t1 t0 v223).bind fun (v225, S224) =>
    (aI [0, 6] S224 x0 (x4 + 1)).bind fun v226 =>
    (aI [0, 6] S224 x0 (x4 + 2)).bind fun v227 =>
    (aI [0, 6] S224 x0 (x4 + 3)).bind fun v228 =>
    if v228 = 0 then
    F_Law_law_1105 cab N rec23 x0 x1 x2 x3 x4 0 v227 v226 x2 v225 S224
    else
    F_Law_law_1105 cab N rec23 x0 x1 x2 x3 x4 1 v227 v226 x2 v225 S224
set_option maxHeartbeats 4000000 in
set_option maxRecDepth 20000 in
theorem f_Law_law_1069 (cab : pm_S → Nat → Int32 → Int32 → Int32 → Nat → Option (Int32 × pm_S)) (sp : pm_I → List Value → pm_S → pm_O → Prop) (hcab : ∀ S a p0 p1 p2 o r, cab S a p0 p1 p2 o = some r → sp mi_Law_cable [.ref a, .int p0, .int p1, .int p2, .ref o] S (some (.int r.1), r.2)) (d N : Nat) (rec23 : Int32 → pm_S → Option (Int32 × pm_S)) (x0 : Nat) (x1 : Nat) (x2 : Nat) (x3 : Nat) (x4 : Int32) (t0 : Int32) (t1 : Int32) (t2 : Int32) (t3 : Nat) (S : pm_S) (hrec23 : ∀ (y1 : Int32) (U : pm_S) (r : (Int32 × pm_S)), rec23 y1 U = some r → pmE pG (pm_rel pG sp (d + 10)) mi_Law_law 23 [some (.ref x0), some (.ref x1), some (.ref x2), some (.ref x3), some (.int y1), none, none] [] U (some (.int r.1), r.2)) (r : (Int32 × pm_S)) (h : F_Law_law_1069 cab N rec23 x0 x1 x2 x3 x4 t0 t1 t2 t3 S = some r) : pmE pG (pm_rel pG sp (d + 10)) mi_Law_law 1069 [some (.ref x0), some (.ref x1), some (.ref x2), some (.ref x3), some (.int x4), none, none] [.int t0, .int t1, .int t2, .ref t3] S (some (.int r.1), r.2) := by
  unfold F_Law_law_1069 at h
  refine pE_jump 4 (pc' := 1074) (ls' := [some (.ref x0), some (.ref x1), some (.ref x2), some (.ref x3), some (.int x4), none, none]) (st' := [.int (x4 + 4), .ref x0, .int t0, .int t1, .int t2, .ref t3]) (fun _ => rfl) ?_
  obtain ⟨v223, hv223, h⟩ := obind h
  refine pE_aI rfl rfl hv223 ?_
  obtain ⟨⟨v225, S224⟩, hv225, h⟩ := obind h
  try dsimp only at h
  refine pE_iv (Bs := [.int t2, .int t1, .int t0, .int v223]) (st := []) 1 rfl (Or.inl ⟨rfl, rfl⟩) rfl rfl (Nat.le_of_ble_eq_true rfl) (Nat.le_of_ble_eq_true rfl) (g_BP_neighbours hv225) (f_BP_neighbours sp (d + 4) N S t3 t2 t1 t0 v223 _ hv225) ?_
  refine pE_jump 5 (pc' := 1084) (ls' := [some (.ref x0), some (.ref x1), some (.ref x2), some (.ref x3), some (.int x4), none, none]) (st' := [.int (x4 + 1), .ref x0, .ref x2, .int v225]) (fun _ => rfl) ?_
  obtain ⟨v226, hv226, h⟩ := obind h
  refine pE_aI rfl rfl hv226 ?_
  refine pE_jump 4 (pc' := 1090) (ls' := [some (.ref x0), some (.ref x1), some (.ref x2), some (.ref x3), some (.int x4), none, none]) (st' := [.int (x4 + 2), .ref x0, .int v226, .ref x2, .int v225]) (fun _ => rfl) ?_
  obtain ⟨v227, hv227, h⟩ := obind h
  refine pE_aI rfl rfl hv227 ?_
  refine pE_jump 4 (pc' := 1096) (ls' := [some (.ref x0), some (.ref x1), some (.ref x2), some (.ref x3), some (.int x4), none, none]) (st' := [.int (x4 + 3), .ref x0, .int v227, .int v226, .ref x2, .int v225]) (fun _ => rfl) ?_
  obtain ⟨v228, hv228, h⟩ := obind h
  refine pE_aI rfl rfl hv228 ?_
  refine pE_br (v228 = 0) rfl rfl (fun c233 => ?_) (fun c233 => ?_)
  · rw [if_pos c233] at h
    refine pE_jump 1 (pc' := 1105) (ls' := [some (.ref x0), some (.ref x1), some (.ref x2), some (.ref x3), some (.int x4), none, none]) (st' := [.int 0, .int v227, .int v226, .ref x2, .int v225]) (fun _ => rfl) ?_
    exact f_Law_law_1105 cab sp hcab d N rec23 x0 x1 x2 x3 x4 0 v227 v226 x2 v225 S224 hrec23 _ h
  · rw [if_neg c233] at h
    refine pE_jump 2 (pc' := 1105) (ls' := [some (.ref x0), some (.ref x1), some (.ref x2), some (.ref x3), some (.int x4), none, none]) (st' := [.int 1, .int v227, .int v226, .ref x2, .int v225]) (fun _ => rfl) ?_
    exact f_Law_law_1105 cab sp hcab d N rec23 x0 x1 x2 x3 x4 1 v227 v226 x2 v225 S224 hrec23 _ h
def F_Law_law_1042 (cab : pm_S → Nat → Int32 → Int32 → Int32 → Nat → Option (Int32 × pm_S)) (N : Nat) (rec23 : Int32 → pm_S → Option (Int32 × pm_S)) (x0 : Nat) (x1 : Nat) (x2 : Nat) (x3 : Nat) (x4 : Int32) (S : pm_S) : Option (Int32 × pm_S) :=
    (aI [0, 6] S x0 (x4 + 1)).bind fun v220 =>
    (aI [0, 6] S x0 (x4 + 2)).bind fun v221 =>
    (aI [0, 6] S x0 (x4 + 3)).bind fun v222 =>
    if v222 = 0 then
    F_Law_law_1069 cab N rec23 x0 x1 x2 x3 x4 0 v221 v220 x1 S
    else
    F_Law_law_1069 cab N rec23 x0 x1 x2 x3 x4 1 v221 v220 x1 S
set_option maxHeartbeats 4000000 in
set_option maxRecDepth 20000 in
theorem f_Law_law_1042 (cab : pm_S → Nat → Int32 → Int32 → Int32 → Nat → Option (Int32 × pm_S)) (sp : pm_I → List Value → pm_S → pm_O → Prop) (hcab : ∀ S a p0 p1 p2 o r, cab S a p0 p1 p2 o = some r → sp mi_Law_cable [.ref a, .int p0, .int p1, .int p2, .ref o] S (some (.int r.1), r.2)) (d N : Nat) (rec23 : Int32 → pm_S → Option (Int32 × pm_S)) (x0 : Nat) (x1 : Nat) (x2 : Nat) (x3 : Nat) (x4 : Int32) (S : pm_S) (hrec23 : ∀ (y1 : Int32) (U : pm_S) (r : (Int32 × pm_S)), rec23 y1 U = some r → pmE pG (pm_rel pG sp (d + 10)) mi_Law_law 23 [some (.ref x0), some (.ref x1), some (.ref x2), some (.ref x3), some (.int y1), none, none] [] U (some (.int r.1), r.2)) (r : (Int32 × pm_S)) (h : F_Law_law_1042 cab N rec23 x0 x1 x2 x3 x4 S = some r) : pmE pG (pm_rel pG sp (d + 10)) mi_Law_law 1042 [some (.ref x0), some (.ref x1), some (.ref x2), some (.ref x3), some (.int x4), none, none] [] S (some (.int r.1), r.2) := by
  unfold F_Law_law_1042 at h
  refine pE_jump 5 (pc' := 1048) (ls' := [some (.ref x0), some (.ref x1), some (.ref x2), some (.ref x3), some (.int x4), none, none]) (st' := [.int (x4 + 1), .ref x0, .ref x1]) (fun _ => rfl) ?_
  obtain ⟨v220, hv220, h⟩ := obind h
  refine pE_aI rfl rfl hv220 ?_
  refine pE_jump 4 (pc' := 1054) (ls' := [some (.ref x0), some (.ref x1), some (.ref x2), some (.ref x3), some (.int x4), none, none]) (st' := [.int (x4 + 2), .ref x0, .int v220, .ref x1]) (fun _ => rfl) ?_
  obtain ⟨v221, hv221, h⟩ := obind h
  refine pE_aI rfl rfl hv221 ?_
  refine pE_jump 4 (pc' := 1060) (ls' := [some (.ref x0), some (.ref x1), some (.ref x2), some (.ref x3), some (.int x4), none, none]) (st' := [.int (x4 + 3), .ref x0, .int v221, .int v220, .ref x1]) (fun _ => rfl) ?_
  obtain ⟨v222, hv222, h⟩ := obind h
  refine pE_aI rfl rfl hv222 ?_
  refine pE_br (v222 = 0) rfl rfl (fun c234 => ?_) (fun c234 => ?_)
  · rw [if_pos c234] at h
    refine pE_jump 1 (pc' := 1069) (ls' := [some (.ref x0), some (.ref x1), some (.ref x2), some (.ref x3), some (.int x4), none, none]) (st' := [.int 0, .int v221, .int v220, .ref x1]) (fun _ => rfl) ?_
    exact f_Law_law_1069 cab sp hcab d N rec23 x0 x1 x2 x3 x4 0 v221 v220 x1 S hrec23 _ h
  · rw [if_neg c234] at h
    refine pE_jump 2 (pc' := 1069) (ls' := [some (.ref x0), some (.ref x1), some (.ref x2), some (.ref x3), some (.int x4), none, none]) (st' := [.int 1, .int v221, .int v220, .ref x1]) (fun _ => rfl) ?_
    exact f_Law_law_1069 cab sp hcab d N rec23 x0 x1 x2 x3 x4 1 v221 v220 x1 S hrec23 _ h
def F_Law_law_1040 (cab : pm_S → Nat → Int32 → Int32 → Int32 → Nat → Option (Int32 × pm_S)) (N : Nat)   (S : pm_S) : Option (Int32 × pm_S) :=
    some (0, S)
set_option maxHeartbeats 4000000 in
set_option maxRecDepth 20000 in
theorem f_Law_law_1040 (cab : pm_S → Nat → Int32 → Int32 → Int32 → Nat → Option (Int32 × pm_S)) (sp : pm_I → List Value → pm_S → pm_O → Prop) (hcab : ∀ S a p0 p1 p2 o r, cab S a p0 p1 p2 o = some r → sp mi_Law_cable [.ref a, .int p0, .int p1, .int p2, .ref o] S (some (.int r.1), r.2)) (d N : Nat)   (S : pm_S)  (r : (Int32 × pm_S)) (h : F_Law_law_1040 cab N   S = some r) : pmE pG (pm_rel pG sp (d + 10)) mi_Law_law 1040 [none, none, none, none, none, none, none] [] S (some (.int r.1), r.2) := by
  unfold F_Law_law_1040 at h
  refine pE_jump 1 (pc' := 1041) (ls' := [none, none, none, none, none, none, none]) (st' := [.int 0]) (fun _ => rfl) ?_
  cases h
  exact pE_ret rfl rfl rfl
def F_Law_law_1034 (cab : pm_S → Nat → Int32 → Int32 → Int32 → Nat → Option (Int32 × pm_S)) (N : Nat) (rec23 : Int32 → pm_S → Option (Int32 × pm_S)) (x0 : Nat) (x1 : Nat) (x2 : Nat) (x3 : Nat) (x4 : Int32) (t0 : Int32) (t1 : Int32) (t2 : Int32) (t3 : Nat) (t4 : Int32) (S : pm_S) : Option (Int32 × pm_S) :=
    (F_M_served N S t3 t2 t1 t0).bind fun (v244, S243) =>
    if t4 = v244 then
    F_Law_law_1958 cab N rec23 x0 x1 x2 x3 x4 S243
    else
    F_Law_law_1040 cab N S243
set_option maxHeartbeats 4000000 in
set_option maxRecDepth 20000 in
theorem f_Law_law_1034 (cab : pm_S → Nat → Int32 → Int32 → Int32 → Nat → Option (Int32 × pm_S)) (sp : pm_I → List Value → pm_S → pm_O → Prop) (hcab : ∀ S a p0 p1 p2 o r, cab S a p0 p1 p2 o = some r → sp mi_Law_cable [.ref a, .int p0, .int p1, .int p2, .ref o] S (some (.int r.1), r.2)) (d N : Nat) (rec23 : Int32 → pm_S → Option (Int32 × pm_S)) (x0 : Nat) (x1 : Nat) (x2 : Nat) (x3 : Nat) (x4 : Int32) (t0 : Int32) (t1 : Int32) (t2 : Int32) (t3 : Nat) (t4 : Int32) (S : pm_S) (hrec23 : ∀ (y1 : Int32) (U : pm_S) (r : (Int32 × pm_S)), rec23 y1 U = some r → pmE pG (pm_rel pG sp (d + 10)) mi_Law_law 23 [some (.ref x0), some (.ref x1), some (.ref x2), some (.ref x3), some (.int y1), none, none] [] U (some (.int r.1), r.2)) (r : (Int32 × pm_S)) (h : F_Law_law_1034 cab N rec23 x0 x1 x2 x3 x4 t0 t1 t2 t3 t4 S = some r) : pmE pG (pm_rel pG sp (d + 10)) mi_Law_law 1034 [some (.ref x0), some (.ref x1), some (.ref x2), some (.ref x3), some (.int x4), none, none] [.int t0, .int t1, .int t2, .ref t3, .int t4] S (some (.int r.1), r.2) := by
  unfold F_Law_law_1034 at h
  obtain ⟨⟨v244, S243⟩, hv244, h⟩ := obind h
  try dsimp only at h
  refine pE_iv (Bs := [.int t2, .int t1, .int t0]) (st := [.int t4]) 1 rfl (Or.inl ⟨rfl, rfl⟩) rfl rfl (Nat.le_of_ble_eq_true rfl) (Nat.le_of_ble_eq_true rfl) (g_M_served hv244) (f_M_served sp (d + 4) N S t3 t2 t1 t0 _ hv244) ?_
  refine pE_br (t4 = v244) rfl rfl (fun c245 => ?_) (fun c245 => ?_)
  · rw [if_pos c245] at h
    exact f_Law_law_1958 cab sp hcab d N rec23 x0 x1 x2 x3 x4 S243 hrec23 _ h
  · rw [if_neg c245] at h
    refine pE_weak [none, none, none, none, none, none, none] trivial ?_
    exact f_Law_law_1040 cab sp hcab d N S243 _ h
def F_Law_law_1004 (cab : pm_S → Nat → Int32 → Int32 → Int32 → Nat → Option (Int32 × pm_S)) (N : Nat) (rec23 : Int32 → pm_S → Option (Int32 × pm_S)) (x0 : Nat) (x1 : Nat) (x2 : Nat) (x3 : Nat) (x4 : Int32) (t0 : Int32) (t1 : Int32) (t2 : Int32) (t3 : Nat) (S : pm_S) : Option (Int32 × pm_S) :=
    (F_BP_served N S t3 t2 t1 t0).bind fun (v239, S238) =>
    (aI [0, 6] S238 x0 (x4 + 1)).bind fun v240 =>
    (aI [0, 6] S238 x0 (x4 + 2)).bind fun v241 =>
    (aI [0, 6] S238 x0 (x4 + 3)).bind fun v242 =>
    if v242 = 0 then
    F_Law_law_1034 cab N rec23 x0 x1 x2 x3 x4 0 v241 v240 x2 v239 S238
    else
    F_Law_law_1034 cab N rec23 x0 x1 x2 x3 x4 1 v241 v240 x2 v239 S238
set_option maxHeartbeats 4000000 in
set_option maxRecDepth 20000 in
theorem f_Law_law_1004 (cab : pm_S → Nat → Int32 → Int32 → Int32 → Nat → Option (Int32 × pm_S)) (sp : pm_I → List Value → pm_S → pm_O → Prop) (hcab : ∀ S a p0 p1 p2 o r, cab S a p0 p1 p2 o = some r → sp mi_Law_cable [.ref a, .int p0, .int p1, .int p2, .ref o] S (some (.int r.1), r.2)) (d N : Nat) (rec23 : Int32 → pm_S → Option (Int32 × pm_S)) (x0 : Nat) (x1 : Nat) (x2 : Nat) (x3 : Nat) (x4 : Int32) (t0 : Int32) (t1 : Int32) (t2 : Int32) (t3 : Nat) (S : pm_S) (hrec23 : ∀ (y1 : Int32) (U : pm_S) (r : (Int32 × pm_S)), rec23 y1 U = some r → pmE pG (pm_rel pG sp (d + 10)) mi_Law_law 23 [some (.ref x0), some (.ref x1), some (.ref x2), some (.ref x3), some (.int y1), none, none] [] U (some (.int r.1), r.2)) (r : (Int32 × pm_S)) (h : F_Law_law_1004 cab N rec23 x0 x1 x2 x3 x4 t0 t1 t2 t3 S = some r) : pmE pG (pm_rel pG sp (d + 10)) mi_Law_law 1004 [some (.ref x0), some (.ref x1), some (.ref x2), some (.ref x3), some (.int x4), none, none] [.int t0, .int t1, .int t2, .ref t3] S (some (.int r.1), r.2) := by
  unfold F_Law_law_1004 at h
  obtain ⟨⟨v239, S238⟩, hv239, h⟩ := obind h
  try dsimp only at h
  refine pE_iv (Bs := [.int t2, .int t1, .int t0]) (st := []) 1 rfl (Or.inl ⟨rfl, rfl⟩) rfl rfl (Nat.le_of_ble_eq_true rfl) (Nat.le_of_ble_eq_true rfl) (g_BP_served hv239) (f_BP_served sp (d + 3) N S t3 t2 t1 t0 _ hv239) ?_
  refine pE_jump 5 (pc' := 1013) (ls' := [some (.ref x0), some (.ref x1), some (.ref x2), some (.ref x3), some (.int x4), none, none]) (st' := [.int (x4 + 1), .ref x0, .ref x2, .int v239]) (fun _ => rfl) ?_
  obtain ⟨v240, hv240, h⟩ := obind h
  refine pE_aI rfl rfl hv240 ?_
  refine pE_jump 4 (pc' := 1019) (ls' := [some (.ref x0), some (.ref x1), some (.ref x2), some (.ref x3), some (.int x4), none, none]) (st' := [.int (x4 + 2), .ref x0, .int v240, .ref x2, .int v239]) (fun _ => rfl) ?_
  obtain ⟨v241, hv241, h⟩ := obind h
  refine pE_aI rfl rfl hv241 ?_
  refine pE_jump 4 (pc' := 1025) (ls' := [some (.ref x0), some (.ref x1), some (.ref x2), some (.ref x3), some (.int x4), none, none]) (st' := [.int (x4 + 3), .ref x0, .int v241, .int v240, .ref x2, .int v239]) (fun _ => rfl) ?_
  obtain ⟨v242, hv242, h⟩ := obind h
  refine pE_aI rfl rfl hv242 ?_
  refine pE_br (v242 = 0) rfl rfl (fun c246 => ?_) (fun c246 => ?_)
  · rw [if_pos c246] at h
    refine pE_jump 1 (pc' := 1034) (ls' := [some (.ref x0), some (.ref x1), some (.ref x2), some (.ref x3), some (.int x4), none, none]) (st' := [.int 0, .int v241, .int v240, .ref x2, .int v239]) (fun _ => rfl) ?_
    exact f_Law_law_1034 cab sp hcab d N rec23 x0 x1 x2 x3 x4 0 v241 v240 x2 v239 S238 hrec23 _ h
  · rw [if_neg c246] at h
    refine pE_jump 2 (pc' := 1034) (ls' := [some (.ref x0), some (.ref x1), some (.ref x2), some (.ref x3), some (.int x4), none, none]) (st' := [.int 1, .int v241, .int v240, .ref x2, .int v239]) (fun _ => rfl) ?_
    exact f_Law_law_1034 cab sp hcab d N rec23 x0 x1 x2 x3 x4 1 v241 v240 x2 v239 S238 hrec23 _ h
def F_Law_law_977 (cab : pm_S → Nat → Int32 → Int32 → Int32 → Nat → Option (Int32 × pm_S)) (N : Nat) (rec23 : Int32 → pm_S → Option (Int32 × pm_S)) (x0 : Nat) (x1 : Nat) (x2 : Nat) (x3 : Nat) (x4 : Int32) (S : pm_S) : Option (Int32 × pm_S) :=
    (aI [0, 6] S x0 (x4 + 1)).bind fun v235 =>
    (aI [0, 6] S x0 (x4 + 2)).bind fun v236 =>
    (aI [0, 6] S x0 (x4 + 3)).bind fun v237 =>
    if v237 = 0 then
    F_Law_law_1004 cab N rec23 x0 x1 x2 x3 x4 0 v236 v235 x1 S
    else
    F_Law_law_1004 cab N rec23 x0 x1 x2 x3 x4 1 v236 v235 x1 S
set_option maxHeartbeats 4000000 in
set_option maxRecDepth 20000 in
theorem f_Law_law_977 (cab : pm_S → Nat → Int32 → Int32 → Int32 → Nat → Option (Int32 × pm_S)) (sp : pm_I → List Value → pm_S → pm_O → Prop) (hcab : ∀ S a p0 p1 p2 o r, cab S a p0 p1 p2 o = some r → sp mi_Law_cable [.ref a, .int p0, .int p1, .int p2, .ref o] S (some (.int r.1), r.2)) (d N : Nat) (rec23 : Int32 → pm_S → Option (Int32 × pm_S)) (x0 : Nat) (x1 : Nat) (x2 : Nat) (x3 : Nat) (x4 : Int32) (S : pm_S) (hrec23 : ∀ (y1 : Int32) (U : pm_S) (r : (Int32 × pm_S)), rec23 y1 U = some r → pmE pG (pm_rel pG sp (d + 10)) mi_Law_law 23 [some (.ref x0), some (.ref x1), some (.ref x2), some (.ref x3), some (.int y1), none, none] [] U (some (.int r.1), r.2)) (r : (Int32 × pm_S)) (h : F_Law_law_977 cab N rec23 x0 x1 x2 x3 x4 S = some r) : pmE pG (pm_rel pG sp (d + 10)) mi_Law_law 977 [some (.ref x0), some (.ref x1), some (.ref x2), some (.ref x3), some (.int x4), none, none] [] S (some (.int r.1), r.2) := by
  unfold F_Law_law_977 at h
  refine pE_jump 5 (pc' := 983) (ls' := [some (.ref x0), some (.ref x1), some (.ref x2), some (.ref x3), some (.int x4), none, none]) (st' := [.int (x4 + 1), .ref x0, .ref x1]) (fun _ => rfl) ?_
  obtain ⟨v235, hv235, h⟩ := obind h
  refine pE_aI rfl rfl hv235 ?_
  refine pE_jump 4 (pc' := 989) (ls' := [some (.ref x0), some (.ref x1), some (.ref x2), some (.ref x3), some (.int x4), none, none]) (st' := [.int (x4 + 2), .ref x0, .int v235, .ref x1]) (fun _ => rfl) ?_
  obtain ⟨v236, hv236, h⟩ := obind h
  refine pE_aI rfl rfl hv236 ?_
  refine pE_jump 4 (pc' := 995) (ls' := [some (.ref x0), some (.ref x1), some (.ref x2), some (.ref x3), some (.int x4), none, none]) (st' := [.int (x4 + 3), .ref x0, .int v236, .int v235, .ref x1]) (fun _ => rfl) ?_
  obtain ⟨v237, hv237, h⟩ := obind h
  refine pE_aI rfl rfl hv237 ?_
  refine pE_br (v237 = 0) rfl rfl (fun c247 => ?_) (fun c247 => ?_)
  · rw [if_pos c247] at h
    refine pE_jump 1 (pc' := 1004) (ls' := [some (.ref x0), some (.ref x1), some (.ref x2), some (.ref x3), some (.int x4), none, none]) (st' := [.int 0, .int v236, .int v235, .ref x1]) (fun _ => rfl) ?_
    exact f_Law_law_1004 cab sp hcab d N rec23 x0 x1 x2 x3 x4 0 v236 v235 x1 S hrec23 _ h
  · rw [if_neg c247] at h
    refine pE_jump 2 (pc' := 1004) (ls' := [some (.ref x0), some (.ref x1), some (.ref x2), some (.ref x3), some (.int x4), none, none]) (st' := [.int 1, .int v236, .int v235, .ref x1]) (fun _ => rfl) ?_
    exact f_Law_law_1004 cab sp hcab d N rec23 x0 x1 x2 x3 x4 1 v236 v235 x1 S hrec23 _ h
def F_Law_law_975 (cab : pm_S → Nat → Int32 → Int32 → Int32 → Nat → Option (Int32 × pm_S)) (N : Nat)   (S : pm_S) : Option (Int32 × pm_S) :=
    some (0, S)
set_option maxHeartbeats 4000000 in
set_option maxRecDepth 20000 in
theorem f_Law_law_975 (cab : pm_S → Nat → Int32 → Int32 → Int32 → Nat → Option (Int32 × pm_S)) (sp : pm_I → List Value → pm_S → pm_O → Prop) (hcab : ∀ S a p0 p1 p2 o r, cab S a p0 p1 p2 o = some r → sp mi_Law_cable [.ref a, .int p0, .int p1, .int p2, .ref o] S (some (.int r.1), r.2)) (d N : Nat)   (S : pm_S)  (r : (Int32 × pm_S)) (h : F_Law_law_975 cab N   S = some r) : pmE pG (pm_rel pG sp (d + 10)) mi_Law_law 975 [none, none, none, none, none, none, none] [] S (some (.int r.1), r.2) := by
  unfold F_Law_law_975 at h
  refine pE_jump 1 (pc' := 976) (ls' := [none, none, none, none, none, none, none]) (st' := [.int 0]) (fun _ => rfl) ?_
  cases h
  exact pE_ret rfl rfl rfl
def F_Law_law_962 (cab : pm_S → Nat → Int32 → Int32 → Int32 → Nat → Option (Int32 × pm_S)) (N : Nat) (rec23 : Int32 → pm_S → Option (Int32 × pm_S)) (x0 : Nat) (x1 : Nat) (x2 : Nat) (x3 : Nat) (x4 : Int32) (t0 : Int32) (t1 : Int32) (t2 : Int32) (t3 : Nat) (t4 : Int64) (S : pm_S) : Option (Int32 × pm_S) :=
    (aI [0, 6] S x0 (x4 + 4)).bind fun v257 =>
    (F_M_fed N S t3 t2 t1 t0 v257).bind fun (v259, S258) =>
    if (lg_cmp t4 v259) = 0 then
    F_Law_law_1958 cab N rec23 x0 x1 x2 x3 x4 S258
    else
    F_Law_law_975 cab N S258
set_option maxHeartbeats 4000000 in
set_option maxRecDepth 20000 in
theorem f_Law_law_962 (cab : pm_S → Nat → Int32 → Int32 → Int32 → Nat → Option (Int32 × pm_S)) (sp : pm_I → List Value → pm_S → pm_O → Prop) (hcab : ∀ S a p0 p1 p2 o r, cab S a p0 p1 p2 o = some r → sp mi_Law_cable [.ref a, .int p0, .int p1, .int p2, .ref o] S (some (.int r.1), r.2)) (d N : Nat) (rec23 : Int32 → pm_S → Option (Int32 × pm_S)) (x0 : Nat) (x1 : Nat) (x2 : Nat) (x3 : Nat) (x4 : Int32) (t0 : Int32) (t1 : Int32) (t2 : Int32) (t3 : Nat) (t4 : Int64) (S : pm_S) (hrec23 : ∀ (y1 : Int32) (U : pm_S) (r : (Int32 × pm_S)), rec23 y1 U = some r → pmE pG (pm_rel pG sp (d + 10)) mi_Law_law 23 [some (.ref x0), some (.ref x1), some (.ref x2), some (.ref x3), some (.int y1), none, none] [] U (some (.int r.1), r.2)) (r : (Int32 × pm_S)) (h : F_Law_law_962 cab N rec23 x0 x1 x2 x3 x4 t0 t1 t2 t3 t4 S = some r) : pmE pG (pm_rel pG sp (d + 10)) mi_Law_law 962 [some (.ref x0), some (.ref x1), some (.ref x2), some (.ref x3), some (.int x4), none, none] [.int t0, .int t1, .int t2, .ref t3, .long t4] S (some (.int r.1), r.2) := by
  unfold F_Law_law_962 at h
  refine pE_jump 4 (pc' := 967) (ls' := [some (.ref x0), some (.ref x1), some (.ref x2), some (.ref x3), some (.int x4), none, none]) (st' := [.int (x4 + 4), .ref x0, .int t0, .int t1, .int t2, .ref t3, .long t4]) (fun _ => rfl) ?_
  obtain ⟨v257, hv257, h⟩ := obind h
  refine pE_aI rfl rfl hv257 ?_
  obtain ⟨⟨v259, S258⟩, hv259, h⟩ := obind h
  try dsimp only at h
  refine pE_iv (Bs := [.int t2, .int t1, .int t0, .int v257]) (st := [.long t4]) 1 rfl (Or.inl ⟨rfl, rfl⟩) rfl rfl (Nat.le_of_ble_eq_true rfl) (Nat.le_of_ble_eq_true rfl) (g_M_fed hv259) (f_M_fed sp (d + 4) N S t3 t2 t1 t0 v257 _ hv259) ?_
  refine pE_jump 1 (pc' := 972) (ls' := [some (.ref x0), some (.ref x1), some (.ref x2), some (.ref x3), some (.int x4), none, none]) (st' := [.int (lg_cmp t4 v259)]) (fun _ => rfl) ?_
  refine pE_br ((lg_cmp t4 v259) = 0) rfl rfl (fun c260 => ?_) (fun c260 => ?_)
  · rw [if_pos c260] at h
    exact f_Law_law_1958 cab sp hcab d N rec23 x0 x1 x2 x3 x4 S258 hrec23 _ h
  · rw [if_neg c260] at h
    refine pE_weak [none, none, none, none, none, none, none] trivial ?_
    exact f_Law_law_975 cab sp hcab d N S258 _ h
def F_Law_law_926 (cab : pm_S → Nat → Int32 → Int32 → Int32 → Nat → Option (Int32 × pm_S)) (N : Nat) (rec23 : Int32 → pm_S → Option (Int32 × pm_S)) (x0 : Nat) (x1 : Nat) (x2 : Nat) (x3 : Nat) (x4 : Int32) (t0 : Int32) (t1 : Int32) (t2 : Int32) (t3 : Nat) (S : pm_S) : Option (Int32 × pm_S) :=
    (aI [0, 6] S x0 (x4 + 4)).bind fun v251 =>
    (F_BP_fed N S t3 t2 t1 t0 v251).bind fun (v253, S252) =>
    (aI [0, 6] S252 x0 (x4 + 1)).bind fun v254 =>
    (aI [0, 6] S252 x0 (x4 + 2)).bind fun v255 =>
    (aI [0, 6] S252 x0 (x4 + 3)).bind fun v256 =>
    if v256 = 0 then
    F_Law_law_962 cab N rec23 x0 x1 x2 x3 x4 0 v255 v254 x2 v253 S252
    else
    F_Law_law_962 cab N rec23 x0 x1 x2 x3 x4 1 v255 v254 x2 v253 S252
set_option maxHeartbeats 4000000 in
set_option maxRecDepth 20000 in
theorem f_Law_law_926 (cab : pm_S → Nat → Int32 → Int32 → Int32 → Nat → Option (Int32 × pm_S)) (sp : pm_I → List Value → pm_S → pm_O → Prop) (hcab : ∀ S a p0 p1 p2 o r, cab S a p0 p1 p2 o = some r → sp mi_Law_cable [.ref a, .int p0, .int p1, .int p2, .ref o] S (some (.int r.1), r.2)) (d N : Nat) (rec23 : Int32 → pm_S → Option (Int32 × pm_S)) (x0 : Nat) (x1 : Nat) (x2 : Nat) (x3 : Nat) (x4 : Int32) (t0 : Int32) (t1 : Int32) (t2 : Int32) (t3 : Nat) (S : pm_S) (hrec23 : ∀ (y1 : Int32) (U : pm_S) (r : (Int32 × pm_S)), rec23 y1 U = some r → pmE pG (pm_rel pG sp (d + 10)) mi_Law_law 23 [some (.ref x0), some (.ref x1), some (.ref x2), some (.ref x3), some (.int y1), none, none] [] U (some (.int r.1), r.2)) (r : (Int32 × pm_S)) (h : F_Law_law_926 cab N rec23 x0 x1 x2 x3 x4 t0 t1 t2 t3 S = some r) : pmE pG (pm_rel pG sp (d + 10)) mi_Law_law 926 [some (.ref x0), some (.ref x1), some (.ref x2), some (.ref x3), some (.int x4), none, none] [.int t0, .int t1, .int t2, .ref t3] S (some (.int r.1), r.2) := by
  unfold F_Law_law_926 at h
  refine pE_jump 4 (pc' := 931) (ls' := [some (.ref x0), some (.ref x1), some (.ref x2), some (.ref x3), some (.int x4), none, none]) (st' := [.int (x4 + 4), .ref x0, .int t0, .int t1, .int t2, .ref t3]) (fun _ => rfl) ?_
  obtain ⟨v251, hv251, h⟩ := obind h
  refine pE_aI rfl rfl hv251 ?_
  obtain ⟨⟨v253, S252⟩, hv253, h⟩ := obind h
  try dsimp only at h
  refine pE_iv (Bs := [.int t2, .int t1, .int t0, .int v251]) (st := []) 1 rfl (Or.inl ⟨rfl, rfl⟩) rfl rfl (Nat.le_of_ble_eq_true rfl) (Nat.le_of_ble_eq_true rfl) (g_BP_fed hv253) (f_BP_fed sp (d + 4) N S t3 t2 t1 t0 v251 _ hv253) ?_
  refine pE_jump 5 (pc' := 941) (ls' := [some (.ref x0), some (.ref x1), some (.ref x2), some (.ref x3), some (.int x4), none, none]) (st' := [.int (x4 + 1), .ref x0, .ref x2, .long v253]) (fun _ => rfl) ?_
  obtain ⟨v254, hv254, h⟩ := obind h
  refine pE_aI rfl rfl hv254 ?_
  refine pE_jump 4 (pc' := 947) (ls' := [some (.ref x0), some (.ref x1), some (.ref x2), some (.ref x3), some (.int x4), none, none]) (st' := [.int (x4 + 2), .ref x0, .int v254, .ref x2, .long v253]) (fun _ => rfl) ?_
  obtain ⟨v255, hv255, h⟩ := obind h
  refine pE_aI rfl rfl hv255 ?_
  refine pE_jump 4 (pc' := 953) (ls' := [some (.ref x0), some (.ref x1), some (.ref x2), some (.ref x3), some (.int x4), none, none]) (st' := [.int (x4 + 3), .ref x0, .int v255, .int v254, .ref x2, .long v253]) (fun _ => rfl) ?_
  obtain ⟨v256, hv256, h⟩ := obind h
  refine pE_aI rfl rfl hv256 ?_
  refine pE_br (v256 = 0) rfl rfl (fun c261 => ?_) (fun c261 => ?_)
  · rw [if_pos c261] at h
    refine pE_jump 1 (pc' := 962) (ls' := [some (.ref x0), some (.ref x1), some (.ref x2), some (.ref x3), some (.int x4), none, none]) (st' := [.int 0, .int v255, .int v254, .ref x2, .long v253]) (fun _ => rfl) ?_
    exact f_Law_law_962 cab sp hcab d N rec23 x0 x1 x2 x3 x4 0 v255 v254 x2 v253 S252 hrec23 _ h
  · rw [if_neg c261] at h
    refine pE_jump 2 (pc' := 962) (ls' := [some (.ref x0), some (.ref x1), some (.ref x2), some (.ref x3), some (.int x4), none, none]) (st' := [.int 1, .int v255, .int v254, .ref x2, .long v253]) (fun _ => rfl) ?_
    exact f_Law_law_962 cab sp hcab d N rec23 x0 x1 x2 x3 x4 1 v255 v254 x2 v253 S252 hrec23 _ h
def F_Law_law_899 (cab : pm_S → Nat → Int32 → Int32 → Int32 → Nat → Option (Int32 × pm_S)) (N : Nat) (rec23 : Int32 → pm_S → Option (Int32 × pm_S)) (x0 : Nat) (x1 : Nat) (x2 : Nat) (x3 : Nat) (x4 : Int32) (S : pm_S) : Option (Int32 × pm_S) :=
    (aI [0, 6] S x0 (x4 + 1)).bind fun v248 =>
    (aI [0, 6] S x0 (x4 + 2)).bind fun v249 =>
    (aI [0, 6] S x0 (x4 + 3)).bind fun v250 =>
    if v250 = 0 then
    F_Law_law_926 cab N rec23 x0 x1 x2 x3 x4 0 v249 v248 x1 S
    else
    F_Law_law_926 cab N rec23 x0 x1 x2 x3 x4 1 v249 v248 x1 S
set_option maxHeartbeats 4000000 in
set_option maxRecDepth 20000 in
theorem f_Law_law_899 (cab : pm_S → Nat → Int32 → Int32 → Int32 → Nat → Option (Int32 × pm_S)) (sp : pm_I → List Value → pm_S → pm_O → Prop) (hcab : ∀ S a p0 p1 p2 o r, cab S a p0 p1 p2 o = some r → sp mi_Law_cable [.ref a, .int p0, .int p1, .int p2, .ref o] S (some (.int r.1), r.2)) (d N : Nat) (rec23 : Int32 → pm_S → Option (Int32 × pm_S)) (x0 : Nat) (x1 : Nat) (x2 : Nat) (x3 : Nat) (x4 : Int32) (S : pm_S) (hrec23 : ∀ (y1 : Int32) (U : pm_S) (r : (Int32 × pm_S)), rec23 y1 U = some r → pmE pG (pm_rel pG sp (d + 10)) mi_Law_law 23 [some (.ref x0), some (.ref x1), some (.ref x2), some (.ref x3), some (.int y1), none, none] [] U (some (.int r.1), r.2)) (r : (Int32 × pm_S)) (h : F_Law_law_899 cab N rec23 x0 x1 x2 x3 x4 S = some r) : pmE pG (pm_rel pG sp (d + 10)) mi_Law_law 899 [some (.ref x0), some (.ref x1), some (.ref x2), some (.ref x3), some (.int x4), none, none] [] S (some (.int r.1), r.2) := by
  unfold F_Law_law_899 at h
  refine pE_jump 5 (pc' := 905) (ls' := [some (.ref x0), some (.ref x1), some (.ref x2), some (.ref x3), some (.int x4), none, none]) (st' := [.int (x4 + 1), .ref x0, .ref x1]) (fun _ => rfl) ?_
  obtain ⟨v248, hv248, h⟩ := obind h
  refine pE_aI rfl rfl hv248 ?_
  refine pE_jump 4 (pc' := 911) (ls' := [some (.ref x0), some (.ref x1), some (.ref x2), some (.ref x3), some (.int x4), none, none]) (st' := [.int (x4 + 2), .ref x0, .int v248, .ref x1]) (fun _ => rfl) ?_
  obtain ⟨v249, hv249, h⟩ := obind h
  refine pE_aI rfl rfl hv249 ?_
  refine pE_jump 4 (pc' := 917) (ls' := [some (.ref x0), some (.ref x1), some (.ref x2), some (.ref x3), some (.int x4), none, none]) (st' := [.int (x4 + 3), .ref x0, .int v249, .int v248, .ref x1]) (fun _ => rfl) ?_
  obtain ⟨v250, hv250, h⟩ := obind h
  refine pE_aI rfl rfl hv250 ?_
  refine pE_br (v250 = 0) rfl rfl (fun c262 => ?_) (fun c262 => ?_)
  · rw [if_pos c262] at h
    refine pE_jump 1 (pc' := 926) (ls' := [some (.ref x0), some (.ref x1), some (.ref x2), some (.ref x3), some (.int x4), none, none]) (st' := [.int 0, .int v249, .int v248, .ref x1]) (fun _ => rfl) ?_
    exact f_Law_law_926 cab sp hcab d N rec23 x0 x1 x2 x3 x4 0 v249 v248 x1 S hrec23 _ h
  · rw [if_neg c262] at h
    refine pE_jump 2 (pc' := 926) (ls' := [some (.ref x0), some (.ref x1), some (.ref x2), some (.ref x3), some (.int x4), none, none]) (st' := [.int 1, .int v249, .int v248, .ref x1]) (fun _ => rfl) ?_
    exact f_Law_law_926 cab sp hcab d N rec23 x0 x1 x2 x3 x4 1 v249 v248 x1 S hrec23 _ h
def F_Law_law_897 (cab : pm_S → Nat → Int32 → Int32 → Int32 → Nat → Option (Int32 × pm_S)) (N : Nat)   (S : pm_S) : Option (Int32 × pm_S) :=
    some (0, S)
set_option maxHeartbeats 4000000 in
set_option maxRecDepth 20000 in
theorem f_Law_law_897 (cab : pm_S → Nat → Int32 → Int32 → Int32 → Nat → Option (Int32 × pm_S)) (sp : pm_I → List Value → pm_S → pm_O → Prop) (hcab : ∀ S a p0 p1 p2 o r, cab S a p0 p1 p2 o = some r → sp mi_Law_cable [.ref a, .int p0, .int p1, .int p2, .ref o] S (some (.int r.1), r.2)) (d N : Nat)   (S : pm_S)  (r : (Int32 × pm_S)) (h : F_Law_law_897 cab N   S = some r) : pmE pG (pm_rel pG sp (d + 10)) mi_Law_law 897 [none, none, none, none, none, none, none] [] S (some (.int r.1), r.2) := by
  unfold F_Law_law_897 at h
  refine pE_jump 1 (pc' := 898) (ls' := [none, none, none, none, none, none, none]) (st' := [.int 0]) (fun _ => rfl) ?_
  cases h
  exact pE_ret rfl rfl rfl
def F_Law_law_872 (cab : pm_S → Nat → Int32 → Int32 → Int32 → Nat → Option (Int32 × pm_S)) (N : Nat) (rec23 : Int32 → pm_S → Option (Int32 × pm_S)) (x0 : Nat) (x1 : Nat) (x2 : Nat) (x3 : Nat) (x4 : Int32) (t0 : Int32) (t1 : Int32) (t2 : Int32) (t3 : Nat) (t4 : Int32) (S : pm_S) : Option (Int32 × pm_S) :=
    (aI [0, 6] S x0 (x4 + 4)).bind fun v274 =>
    (aI [0, 6] S x0 (x4 + 5)).bind fun v275 =>
    (aI [0, 6] S x0 (x4 + 6)).bind fun v276 =>
    (F_M_metres N S t3 t2 t1 t0 v274 v275 v276).bind fun (v278, S277) =>
    if t4 = v278 then
    F_Law_law_1958 cab N rec23 x0 x1 x2 x3 x4 S277
    else
    F_Law_law_897 cab N S277
set_option maxHeartbeats 4000000 in
set_option maxRecDepth 20000 in
theorem f_Law_law_872 (cab : pm_S → Nat → Int32 → Int32 → Int32 → Nat → Option (Int32 × pm_S)) (sp : pm_I → List Value → pm_S → pm_O → Prop) (hcab : ∀ S a p0 p1 p2 o r, cab S a p0 p1 p2 o = some r → sp mi_Law_cable [.ref a, .int p0, .int p1, .int p2, .ref o] S (some (.int r.1), r.2)) (d N : Nat) (rec23 : Int32 → pm_S → Option (Int32 × pm_S)) (x0 : Nat) (x1 : Nat) (x2 : Nat) (x3 : Nat) (x4 : Int32) (t0 : Int32) (t1 : Int32) (t2 : Int32) (t3 : Nat) (t4 : Int32) (S : pm_S) (hrec23 : ∀ (y1 : Int32) (U : pm_S) (r : (Int32 × pm_S)), rec23 y1 U = some r → pmE pG (pm_rel pG sp (d + 10)) mi_Law_law 23 [some (.ref x0), some (.ref x1), some (.ref x2), some (.ref x3), some (.int y1), none, none] [] U (some (.int r.1), r.2)) (r : (Int32 × pm_S)) (h : F_Law_law_872 cab N rec23 x0 x1 x2 x3 x4 t0 t1 t2 t3 t4 S = some r) : pmE pG (pm_rel pG sp (d + 10)) mi_Law_law 872 [some (.ref x0), some (.ref x1), some (.ref x2), some (.ref x3), some (.int x4), none, none] [.int t0, .int t1, .int t2, .ref t3, .int t4] S (some (.int r.1), r.2) := by
  unfold F_Law_law_872 at h
  refine pE_jump 4 (pc' := 877) (ls' := [some (.ref x0), some (.ref x1), some (.ref x2), some (.ref x3), some (.int x4), none, none]) (st' := [.int (x4 + 4), .ref x0, .int t0, .int t1, .int t2, .ref t3, .int t4]) (fun _ => rfl) ?_
  obtain ⟨v274, hv274, h⟩ := obind h
  refine pE_aI rfl rfl hv274 ?_
  refine pE_jump 4 (pc' := 883) (ls' := [some (.ref x0), some (.ref x1), some (.ref x2), some (.ref x3), some (.int x4), none, none]) (st' := [.int (x4 + 5), .ref x0, .int v274, .int t0, .int t1, .int t2, .ref t3, .int t4]) (fun _ => rfl) ?_
  obtain ⟨v275, hv275, h⟩ := obind h
  refine pE_aI rfl rfl hv275 ?_
  refine pE_jump 4 (pc' := 890) (ls' := [some (.ref x0), some (.ref x1), some (.ref x2), some (.ref x3), some (.int x4), none, none]) (st' := [.int (x4 + 6), .ref x0, .int v275, .int v274, .int t0, .int t1, .int t2, .ref t3, .int t4]) (fun _ => rfl) ?_
  obtain ⟨v276, hv276, h⟩ := obind h
  refine pE_aI rfl rfl hv276 ?_
  obtain ⟨⟨v278, S277⟩, hv278, h⟩ := obind h
  try dsimp only at h
  refine pE_iv (Bs := [.int t2, .int t1, .int t0, .int v274, .int v275, .int v276]) (st := [.int t4]) 1 rfl (Or.inl ⟨rfl, rfl⟩) rfl rfl (Nat.le_of_ble_eq_true rfl) (Nat.le_of_ble_eq_true rfl) (g_M_metres hv278) (f_M_metres sp (d + 5) N S t3 t2 t1 t0 v274 v275 v276 _ hv278) ?_
  refine pE_br (t4 = v278) rfl rfl (fun c279 => ?_) (fun c279 => ?_)
  · rw [if_pos c279] at h
    exact f_Law_law_1958 cab sp hcab d N rec23 x0 x1 x2 x3 x4 S277 hrec23 _ h
  · rw [if_neg c279] at h
    refine pE_weak [none, none, none, none, none, none, none] trivial ?_
    exact f_Law_law_897 cab sp hcab d N S277 _ h
def F_Law_law_823 (cab : pm_S → Nat → Int32 → Int32 → Int32 → Nat → Option (Int32 × pm_S)) (N : Nat) (rec23 : Int32 → pm_S → Option (Int32 × pm_S)) (x0 : Nat) (x1 : Nat) (x2 : Nat) (x3 : Nat) (x4 : Int32) (t0 : Int32) (t1 : Int32) (t2 : Int32) (t3 : Nat) (S : pm_S) : Option (Int32 × pm_S) :=
    (aI [0, 6] S x0 (x4 + 4)).bind fun v266 =>
    (aI [0, 6] S x0 (x4 + 5)).bind fun v267 =>
    (aI [0, 6] S x0 (x4 + 6)).bind fun v268 =>
    (F_BP_metres N S t3 t2 t1 t0 v266 v267 v268).bind fun (v270, S269) =>
    (aI [0, 6] S269 x0 (x4 + 1)).bind fun v271 =>
    (aI [0, 6] S269 x0 (x4 + 2)).bind fun v272 =>
    (aI [0, 6] S269 x0 (x4 + 3)).bind fun v273 =>
    if v273 = 0 then
    F_Law_law_872 cab N rec23 x0 x1 x2 x3 x4 0 v272 v271 x2 v270 S269
    else
    F_Law_law_872 cab N rec23 x0 x1 x2 x3 x4 1 v272 v271 x2 v270 S269
set_option maxHeartbeats 4000000 in
set_option maxRecDepth 20000 in
theorem f_Law_law_823 (cab : pm_S → Nat → Int32 → Int32 → Int32 → Nat → Option (Int32 × pm_S)) (sp : pm_I → List Value → pm_S → pm_O → Prop) (hcab : ∀ S a p0 p1 p2 o r, cab S a p0 p1 p2 o = some r → sp mi_Law_cable [.ref a, .int p0, .int p1, .int p2, .ref o] S (some (.int r.1), r.2)) (d N : Nat) (rec23 : Int32 → pm_S → Option (Int32 × pm_S)) (x0 : Nat) (x1 : Nat) (x2 : Nat) (x3 : Nat) (x4 : Int32) (t0 : Int32) (t1 : Int32) (t2 : Int32) (t3 : Nat) (S : pm_S) (hrec23 : ∀ (y1 : Int32) (U : pm_S) (r : (Int32 × pm_S)), rec23 y1 U = some r → pmE pG (pm_rel pG sp (d + 10)) mi_Law_law 23 [some (.ref x0), some (.ref x1), some (.ref x2), some (.ref x3), some (.int y1), none, none] [] U (some (.int r.1), r.2)) (r : (Int32 × pm_S)) (h : F_Law_law_823 cab N rec23 x0 x1 x2 x3 x4 t0 t1 t2 t3 S = some r) : pmE pG (pm_rel pG sp (d + 10)) mi_Law_law 823 [some (.ref x0), some (.ref x1), some (.ref x2), some (.ref x3), some (.int x4), none, none] [.int t0, .int t1, .int t2, .ref t3] S (some (.int r.1), r.2) := by
  unfold F_Law_law_823 at h
  refine pE_jump 4 (pc' := 828) (ls' := [some (.ref x0), some (.ref x1), some (.ref x2), some (.ref x3), some (.int x4), none, none]) (st' := [.int (x4 + 4), .ref x0, .int t0, .int t1, .int t2, .ref t3]) (fun _ => rfl) ?_
  obtain ⟨v266, hv266, h⟩ := obind h
  refine pE_aI rfl rfl hv266 ?_
  refine pE_jump 4 (pc' := 834) (ls' := [some (.ref x0), some (.ref x1), some (.ref x2), some (.ref x3), some (.int x4), none, none]) (st' := [.int (x4 + 5), .ref x0, .int v266, .int t0, .int t1, .int t2, .ref t3]) (fun _ => rfl) ?_
  obtain ⟨v267, hv267, h⟩ := obind h
  refine pE_aI rfl rfl hv267 ?_
  refine pE_jump 4 (pc' := 841) (ls' := [some (.ref x0), some (.ref x1), some (.ref x2), some (.ref x3), some (.int x4), none, none]) (st' := [.int (x4 + 6), .ref x0, .int v267, .int v266, .int t0, .int t1, .int t2, .ref t3]) (fun _ => rfl) ?_
  obtain ⟨v268, hv268, h⟩ := obind h
  refine pE_aI rfl rfl hv268 ?_
  obtain ⟨⟨v270, S269⟩, hv270, h⟩ := obind h
  try dsimp only at h
  refine pE_iv (Bs := [.int t2, .int t1, .int t0, .int v266, .int v267, .int v268]) (st := []) 1 rfl (Or.inl ⟨rfl, rfl⟩) rfl rfl (Nat.le_of_ble_eq_true rfl) (Nat.le_of_ble_eq_true rfl) (g_BP_metres hv270) (f_BP_metres sp (d + 4) N S t3 t2 t1 t0 v266 v267 v268 _ hv270) ?_
  refine pE_jump 5 (pc' := 851) (ls' := [some (.ref x0), some (.ref x1), some (.ref x2), some (.ref x3), some (.int x4), none, none]) (st' := [.int (x4 + 1), .ref x0, .ref x2, .int v270]) (fun _ => rfl) ?_
  obtain ⟨v271, hv271, h⟩ := obind h
  refine pE_aI rfl rfl hv271 ?_
  refine pE_jump 4 (pc' := 857) (ls' := [some (.ref x0), some (.ref x1), some (.ref x2), some (.ref x3), some (.int x4), none, none]) (st' := [.int (x4 + 2), .ref x0, .int v271, .ref x2, .int v270]) (fun _ => rfl) ?_
  obtain ⟨v272, hv272, h⟩ := obind h
  refine pE_aI rfl rfl hv272 ?_
  refine pE_jump 4 (pc' := 863) (ls' := [some (.ref x0), some (.ref x1), some (.ref x2), some (.ref x3), some (.int x4), none, none]) (st' := [.int (x4 + 3), .ref x0, .int v272, .int v271, .ref x2, .int v270]) (fun _ => rfl) ?_
  obtain ⟨v273, hv273, h⟩ := obind h
  refine pE_aI rfl rfl hv273 ?_
  refine pE_br (v273 = 0) rfl rfl (fun c280 => ?_) (fun c280 => ?_)
  · rw [if_pos c280] at h
    refine pE_jump 1 (pc' := 872) (ls' := [some (.ref x0), some (.ref x1), some (.ref x2), some (.ref x3), some (.int x4), none, none]) (st' := [.int 0, .int v272, .int v271, .ref x2, .int v270]) (fun _ => rfl) ?_
    exact f_Law_law_872 cab sp hcab d N rec23 x0 x1 x2 x3 x4 0 v272 v271 x2 v270 S269 hrec23 _ h
  · rw [if_neg c280] at h
    refine pE_jump 2 (pc' := 872) (ls' := [some (.ref x0), some (.ref x1), some (.ref x2), some (.ref x3), some (.int x4), none, none]) (st' := [.int 1, .int v272, .int v271, .ref x2, .int v270]) (fun _ => rfl) ?_
    exact f_Law_law_872 cab sp hcab d N rec23 x0 x1 x2 x3 x4 1 v272 v271 x2 v270 S269 hrec23 _ h
