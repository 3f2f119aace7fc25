def F_Law_law_796 (cab : pm_S → Nat → Int32 → Int32 → Int32 → Nat → Option (Int32 × pm_S)) (N : Nat) (rec23 : Int32 → pm_S → Option (Int32 × pm_S)) (x0 : Nat) (x1 : Nat) (x2 : Nat) (x3 : Nat) (x4 : Int32) (S : pm_S) : Option (Int32 × pm_S) :=
    (aI [0, 6] S x0 (x4 + 1)).bind fun v263 =>
    (aI [0, 6] S x0 (x4 + 2)).bind fun v264 =>
    (aI [0, 6] S x0 (x4 + 3)).bind fun v265 =>
    if v265 = 0 then
    F_Law_law_823 cab N rec23 x0 x1 x2 x3 x4 0 v264 v263 x1 S
    else
    F_Law_law_823 cab N rec23 x0 x1 x2 x3 x4 1 v264 v263 x1 S
set_option maxHeartbeats 4000000 in
set_option maxRecDepth 20000 in
theorem f_Law_law_796 (cab : pm_S → Nat → Int32 → Int32 → Int32 → Nat → Option (Int32 × pm_S)) (sp : pm_I → List Value → pm_S → pm_O → Prop) (hcab : ∀ S a p0 p1 p2 o r, cab S a p0 p1 p2 o = some r → sp mi_Law_cable [.ref a, .int p0, .int p1, .int p2, .ref o] S (some (.int r.1), r.2)) (d N : Nat) (rec23 : Int32 → pm_S → Option (Int32 × pm_S)) (x0 : Nat) (x1 : Nat) (x2 : Nat) (x3 : Nat) (x4 : Int32) (S : pm_S) (hrec23 : ∀ (y1 : Int32) (U : pm_S) (r : (Int32 × pm_S)), rec23 y1 U = some r → pmE pG (pm_rel pG sp (d + 10)) mi_Law_law 23 [some (.ref x0), some (.ref x1), some (.ref x2), some (.ref x3), some (.int y1), none, none] [] U (some (.int r.1), r.2)) (r : (Int32 × pm_S)) (h : F_Law_law_796 cab N rec23 x0 x1 x2 x3 x4 S = some r) : pmE pG (pm_rel pG sp (d + 10)) mi_Law_law 796 [some (.ref x0), some (.ref x1), some (.ref x2), some (.ref x3), some (.int x4), none, none] [] S (some (.int r.1), r.2) := by
  unfold F_Law_law_796 at h
  refine pE_jump 5 (pc' := 802) (ls' := [some (.ref x0), some (.ref x1), some (.ref x2), some (.ref x3), some (.int x4), none, none]) (st' := [.int (x4 + 1), .ref x0, .ref x1]) (fun _ => rfl) ?_
  obtain ⟨v263, hv263, h⟩ := obind h
  refine pE_aI rfl rfl hv263 ?_
  refine pE_jump 4 (pc' := 808) (ls' := [some (.ref x0), some (.ref x1), some (.ref x2), some (.ref x3), some (.int x4), none, none]) (st' := [.int (x4 + 2), .ref x0, .int v263, .ref x1]) (fun _ => rfl) ?_
  obtain ⟨v264, hv264, h⟩ := obind h
  refine pE_aI rfl rfl hv264 ?_
  refine pE_jump 4 (pc' := 814) (ls' := [some (.ref x0), some (.ref x1), some (.ref x2), some (.ref x3), some (.int x4), none, none]) (st' := [.int (x4 + 3), .ref x0, .int v264, .int v263, .ref x1]) (fun _ => rfl) ?_
  obtain ⟨v265, hv265, h⟩ := obind h
  refine pE_aI rfl rfl hv265 ?_
  refine pE_br (v265 = 0) rfl rfl (fun c281 => ?_) (fun c281 => ?_)
  · rw [if_pos c281] at h
    refine pE_jump 1 (pc' := 823) (ls' := [some (.ref x0), some (.ref x1), some (.ref x2), some (.ref x3), some (.int x4), none, none]) (st' := [.int 0, .int v264, .int v263, .ref x1]) (fun _ => rfl) ?_
    exact f_Law_law_823 cab sp hcab d N rec23 x0 x1 x2 x3 x4 0 v264 v263 x1 S hrec23 _ h
  · rw [if_neg c281] at h
    refine pE_jump 2 (pc' := 823) (ls' := [some (.ref x0), some (.ref x1), some (.ref x2), some (.ref x3), some (.int x4), none, none]) (st' := [.int 1, .int v264, .int v263, .ref x1]) (fun _ => rfl) ?_
    exact f_Law_law_823 cab sp hcab d N rec23 x0 x1 x2 x3 x4 1 v264 v263 x1 S hrec23 _ h
def F_Law_law_794 (cab : pm_S → Nat → Int32 → Int32 → Int32 → Nat → Option (Int32 × pm_S)) (N : Nat)   (S : pm_S) : Option (Int32 × pm_S) :=
    some (0, S)
set_option maxHeartbeats 4000000 in
set_option maxRecDepth 20000 in
theorem f_Law_law_794 (cab : pm_S → Nat → Int32 → Int32 → Int32 → Nat → Option (Int32 × pm_S)) (sp : pm_I → List Value → pm_S → pm_O → Prop) (hcab : ∀ S a p0 p1 p2 o r, cab S a p0 p1 p2 o = some r → sp mi_Law_cable [.ref a, .int p0, .int p1, .int p2, .ref o] S (some (.int r.1), r.2)) (d N : Nat)   (S : pm_S)  (r : (Int32 × pm_S)) (h : F_Law_law_794 cab N   S = some r) : pmE pG (pm_rel pG sp (d + 10)) mi_Law_law 794 [none, none, none, none, none, none, none] [] S (some (.int r.1), r.2) := by
  unfold F_Law_law_794 at h
  refine pE_jump 1 (pc' := 795) (ls' := [none, none, none, none, none, none, none]) (st' := [.int 0]) (fun _ => rfl) ?_
  cases h
  exact pE_ret rfl rfl rfl
def F_Law_law_755 (cab : pm_S → Nat → Int32 → Int32 → Int32 → Nat → Option (Int32 × pm_S)) (N : Nat) (rec23 : Int32 → pm_S → Option (Int32 × pm_S)) (x0 : Nat) (x1 : Nat) (x2 : Nat) (x3 : Nat) (x4 : Int32) (t0 : Int32) (t1 : Int32) (t2 : Int32) (t3 : Nat) (t4 : Int32) (S : pm_S) : Option (Int32 × pm_S) :=
    (aI [0, 6] S x0 (x4 + 4)).bind fun v295 =>
    (aI [0, 6] S x0 (x4 + 5)).bind fun v296 =>
    (aI [0, 6] S x0 (x4 + 6)).bind fun v297 =>
    (aI [0, 6] S x0 (x4 + 7)).bind fun v298 =>
    (aI [0, 6] S x0 (x4 + 8)).bind fun v299 =>
    (F_M_heard N S t3 t2 t1 t0 v295 v296 v297 v298 v299).bind fun (v301, S300) =>
    if t4 = v301 then
    F_Law_law_1958 cab N rec23 x0 x1 x2 x3 x4 S300
    else
    F_Law_law_794 cab N S300
set_option maxHeartbeats 4000000 in
set_option maxRecDepth 20000 in
theorem f_Law_law_755 (cab : pm_S → Nat → Int32 → Int32 → Int32 → Nat → Option (Int32 × pm_S)) (sp : pm_I → List Value → pm_S → pm_O → Prop) (hcab : ∀ S a p0 p1 p2 o r, cab S a p0 p1 p2 o = some r → sp mi_Law_cable [.ref a, .int p0, .int p1, .int p2, .ref o] S (some (.int r.1), r.2)) (d N : Nat) (rec23 : Int32 → pm_S → Option (Int32 × pm_S)) (x0 : Nat) (x1 : Nat) (x2 : Nat) (x3 : Nat) (x4 : Int32) (t0 : Int32) (t1 : Int32) (t2 : Int32) (t3 : Nat) (t4 : Int32) (S : pm_S) (hrec23 : ∀ (y1 : Int32) (U : pm_S) (r : (Int32 × pm_S)), rec23 y1 U = some r → pmE pG (pm_rel pG sp (d + 10)) mi_Law_law 23 [some (.ref x0), some (.ref x1), some (.ref x2), some (.ref x3), some (.int y1), none, none] [] U (some (.int r.1), r.2)) (r : (Int32 × pm_S)) (h : F_Law_law_755 cab N rec23 x0 x1 x2 x3 x4 t0 t1 t2 t3 t4 S = some r) : pmE pG (pm_rel pG sp (d + 10)) mi_Law_law 755 [some (.ref x0), some (.ref x1), some (.ref x2), some (.ref x3), some (.int x4), none, none] [.int t0, .int t1, .int t2, .ref t3, .int t4] S (some (.int r.1), r.2) := by
  unfold F_Law_law_755 at h
  refine pE_jump 4 (pc' := 760) (ls' := [some (.ref x0), some (.ref x1), some (.ref x2), some (.ref x3), some (.int x4), none, none]) (st' := [.int (x4 + 4), .ref x0, .int t0, .int t1, .int t2, .ref t3, .int t4]) (fun _ => rfl) ?_
  obtain ⟨v295, hv295, h⟩ := obind h
  refine pE_aI rfl rfl hv295 ?_
  refine pE_jump 4 (pc' := 766) (ls' := [some (.ref x0), some (.ref x1), some (.ref x2), some (.ref x3), some (.int x4), none, none]) (st' := [.int (x4 + 5), .ref x0, .int v295, .int t0, .int t1, .int t2, .ref t3, .int t4]) (fun _ => rfl) ?_
  obtain ⟨v296, hv296, h⟩ := obind h
  refine pE_aI rfl rfl hv296 ?_
  refine pE_jump 4 (pc' := 773) (ls' := [some (.ref x0), some (.ref x1), some (.ref x2), some (.ref x3), some (.int x4), none, none]) (st' := [.int (x4 + 6), .ref x0, .int v296, .int v295, .int t0, .int t1, .int t2, .ref t3, .int t4]) (fun _ => rfl) ?_
  obtain ⟨v297, hv297, h⟩ := obind h
  refine pE_aI rfl rfl hv297 ?_
  refine pE_jump 4 (pc' := 780) (ls' := [some (.ref x0), some (.ref x1), some (.ref x2), some (.ref x3), some (.int x4), none, none]) (st' := [.int (x4 + 7), .ref x0, .int v297, .int v296, .int v295, .int t0, .int t1, .int t2, .ref t3, .int t4]) (fun _ => rfl) ?_
  obtain ⟨v298, hv298, h⟩ := obind h
  refine pE_aI rfl rfl hv298 ?_
  refine pE_jump 4 (pc' := 787) (ls' := [some (.ref x0), some (.ref x1), some (.ref x2), some (.ref x3), some (.int x4), none, none]) (st' := [.int (x4 + 8), .ref x0, .int v298, .int v297, .int v296, .int v295, .int t0, .int t1, .int t2, .ref t3, .int t4]) (fun _ => rfl) ?_
  obtain ⟨v299, hv299, h⟩ := obind h
  refine pE_aI rfl rfl hv299 ?_
  obtain ⟨⟨v301, S300⟩, hv301, h⟩ := obind h
  try dsimp only at h
  refine pE_iv (Bs := [.int t2, .int t1, .int t0, .int v295, .int v296, .int v297, .int v298, .int v299]) (st := [.int t4]) 1 rfl (Or.inl ⟨rfl, rfl⟩) rfl rfl (Nat.le_of_ble_eq_true rfl) (Nat.le_of_ble_eq_true rfl) (g_M_heard hv301) (f_M_heard sp (d + 4) N S t3 t2 t1 t0 v295 v296 v297 v298 v299 _ hv301) ?_
  refine pE_br (t4 = v301) rfl rfl (fun c302 => ?_) (fun c302 => ?_)
  · rw [if_pos c302] at h
    exact f_Law_law_1958 cab sp hcab d N rec23 x0 x1 x2 x3 x4 S300 hrec23 _ h
  · rw [if_neg c302] at h
    refine pE_weak [none, none, none, none, none, none, none] trivial ?_
    exact f_Law_law_794 cab sp hcab d N S300 _ h
def F_Law_law_692 (cab : pm_S → Nat → Int32 → Int32 → Int32 → Nat → Option (Int32 × pm_S)) (N : Nat) (rec23 : Int32 → pm_S → Option (Int32 × pm_S)) (x0 : Nat) (x1 : Nat) (x2 : Nat) (x3 : Nat) (x4 : Int32) (t0 : Int32) (t1 : Int32) (t2 : Int32) (t3 : Nat) (S : pm_S) : Option (Int32 × pm_S) :=
    (aI [0, 6] S x0 (x4 + 4)).bind fun v285 =>
    (aI [0, 6] S x0 (x4 + 5)).bind fun v286 =>
    (aI [0, 6] S x0 (x4 + 6)).bind fun v287 =>
    (aI [0, 6] S x0 (x4 + 7)).bind fun v288 =>
    (aI [0, 6] S x0 (x4 + 8)).bind fun v289 =>
    (F_BP_heard N S t3 t2 t1 t0 v285 v286 v287 v288 v289).bind fun (v291, S290) =>
    (aI [0, 6] S290 x0 (x4 + 1)).bind fun v292 =>
    (aI [0, 6] S290 x0 (x4 + 2)).bind fun v293 =>
    (aI [0, 6] S290 x0 (x4 + 3)).bind fun v294 =>
    if v294 = 0 then
    F_Law_law_755 cab N rec23 x0 x1 x2 x3 x4 0 v293 v292 x2 v291 S290
    else
    F_Law_law_755 cab N rec23 x0 x1 x2 x3 x4 1 v293 v292 x2 v291 S290
set_option maxHeartbeats 4000000 in
set_option maxRecDepth 20000 in
theorem f_Law_law_692 (cab : pm_S → Nat → Int32 → Int32 → Int32 → Nat → Option (Int32 × pm_S)) (sp : pm_I → List Value → pm_S → pm_O → Prop) (hcab : ∀ S a p0 p1 p2 o r, cab S a p0 p1 p2 o = some r → sp mi_Law_cable [.ref a, .int p0, .int p1, .int p2, .ref o] S (some (.int r.1), r.2)) (d N : Nat) (rec23 : Int32 → pm_S → Option (Int32 × pm_S)) (x0 : Nat) (x1 : Nat) (x2 : Nat) (x3 : Nat) (x4 : Int32) (t0 : Int32) (t1 : Int32) (t2 : Int32) (t3 : Nat) (S : pm_S) (hrec23 : ∀ (y1 : Int32) (U : pm_S) (r : (Int32 × pm_S)), rec23 y1 U = some r → pmE pG (pm_rel pG sp (d + 10)) mi_Law_law 23 [some (.ref x0), some (.ref x1), some (.ref x2), some (.ref x3), some (.int y1), none, none] [] U (some (.int r.1), r.2)) (r : (Int32 × pm_S)) (h : F_Law_law_692 cab N rec23 x0 x1 x2 x3 x4 t0 t1 t2 t3 S = some r) : pmE pG (pm_rel pG sp (d + 10)) mi_Law_law 692 [some (.ref x0), some (.ref x1), some (.ref x2), some (.ref x3), some (.int x4), none, none] [.int t0, .int t1, .int t2, .ref t3] S (some (.int r.1), r.2) := by
  unfold F_Law_law_692 at h
  refine pE_jump 4 (pc' := 697) (ls' := [some (.ref x0), some (.ref x1), some (.ref x2), some (.ref x3), some (.int x4), none, none]) (st' := [.int (x4 + 4), .ref x0, .int t0, .int t1, .int t2, .ref t3]) (fun _ => rfl) ?_
  obtain ⟨v285, hv285, h⟩ := obind h
  refine pE_aI rfl rfl hv285 ?_
  refine pE_jump 4 (pc' := 703) (ls' := [some (.ref x0), some (.ref x1), some (.ref x2), some (.ref x3), some (.int x4), none, none]) (st' := [.int (x4 + 5), .ref x0, .int v285, .int t0, .int t1, .int t2, .ref t3]) (fun _ => rfl) ?_
  obtain ⟨v286, hv286, h⟩ := obind h
  refine pE_aI rfl rfl hv286 ?_
  refine pE_jump 4 (pc' := 710) (ls' := [some (.ref x0), some (.ref x1), some (.ref x2), some (.ref x3), some (.int x4), none, none]) (st' := [.int (x4 + 6), .ref x0, .int v286, .int v285, .int t0, .int t1, .int t2, .ref t3]) (fun _ => rfl) ?_
  obtain ⟨v287, hv287, h⟩ := obind h
  refine pE_aI rfl rfl hv287 ?_
  refine pE_jump 4 (pc' := 717) (ls' := [some (.ref x0), some (.ref x1), some (.ref x2), some (.ref x3), some (.int x4), none, none]) (st' := [.int (x4 + 7), .ref x0, .int v287, .int v286, .int v285, .int t0, .int t1, .int t2, .ref t3]) (fun _ => rfl) ?_
  obtain ⟨v288, hv288, h⟩ := obind h
  refine pE_aI rfl rfl hv288 ?_
  refine pE_jump 4 (pc' := 724) (ls' := [some (.ref x0), some (.ref x1), some (.ref x2), some (.ref x3), some (.int x4), none, none]) (st' := [.int (x4 + 8), .ref x0, .int v288, .int v287, .int v286, .int v285, .int t0, .int t1, .int t2, .ref t3]) (fun _ => rfl) ?_
  obtain ⟨v289, hv289, h⟩ := obind h
  refine pE_aI rfl rfl hv289 ?_
  obtain ⟨⟨v291, S290⟩, hv291, h⟩ := obind h
  try dsimp only at h
  refine pE_iv (Bs := [.int t2, .int t1, .int t0, .int v285, .int v286, .int v287, .int v288, .int v289]) (st := []) 1 rfl (Or.inl ⟨rfl, rfl⟩) rfl rfl (Nat.le_of_ble_eq_true rfl) (Nat.le_of_ble_eq_true rfl) (g_BP_heard hv291) (f_BP_heard sp (d + 4) N S t3 t2 t1 t0 v285 v286 v287 v288 v289 _ hv291) ?_
  refine pE_jump 5 (pc' := 734) (ls' := [some (.ref x0), some (.ref x1), some (.ref x2), some (.ref x3), some (.int x4), none, none]) (st' := [.int (x4 + 1), .ref x0, .ref x2, .int v291]) (fun _ => rfl) ?_
  obtain ⟨v292, hv292, h⟩ := obind h
  refine pE_aI rfl rfl hv292 ?_
  refine pE_jump 4 (pc' := 740) (ls' := [some (.ref x0), some (.ref x1), some (.ref x2), some (.ref x3), some (.int x4), none, none]) (st' := [.int (x4 + 2), .ref x0, .int v292, .ref x2, .int v291]) (fun _ => rfl) ?_
  obtain ⟨v293, hv293, h⟩ := obind h
  refine pE_aI rfl rfl hv293 ?_
  refine pE_jump 4 (pc' := 746) (ls' := [some (.ref x0), some (.ref x1), some (.ref x2), some (.ref x3), some (.int x4), none, none]) (st' := [.int (x4 + 3), .ref x0, .int v293, .int v292, .ref x2, .int v291]) (fun _ => rfl) ?_
  obtain ⟨v294, hv294, h⟩ := obind h
  refine pE_aI rfl rfl hv294 ?_
  refine pE_br (v294 = 0) rfl rfl (fun c303 => ?_) (fun c303 => ?_)
  · rw [if_pos c303] at h
    refine pE_jump 1 (pc' := 755) (ls' := [some (.ref x0), some (.ref x1), some (.ref x2), some (.ref x3), some (.int x4), none, none]) (st' := [.int 0, .int v293, .int v292, .ref x2, .int v291]) (fun _ => rfl) ?_
    exact f_Law_law_755 cab sp hcab d N rec23 x0 x1 x2 x3 x4 0 v293 v292 x2 v291 S290 hrec23 _ h
  · rw [if_neg c303] at h
    refine pE_jump 2 (pc' := 755) (ls' := [some (.ref x0), some (.ref x1), some (.ref x2), some (.ref x3), some (.int x4), none, none]) (st' := [.int 1, .int v293, .int v292, .ref x2, .int v291]) (fun _ => rfl) ?_
    exact f_Law_law_755 cab sp hcab d N rec23 x0 x1 x2 x3 x4 1 v293 v292 x2 v291 S290 hrec23 _ h
def F_Law_law_665 (cab : pm_S → Nat → Int32 → Int32 → Int32 → Nat → Option (Int32 × pm_S)) (N : Nat) (rec23 : Int32 → pm_S → Option (Int32 × pm_S)) (x0 : Nat) (x1 : Nat) (x2 : Nat) (x3 : Nat) (x4 : Int32) (S : pm_S) : Option (Int32 × pm_S) :=
    (aI [0, 6] S x0 (x4 + 1)).bind fun v282 =>
    (aI [0, 6] S x0 (x4 + 2)).bind fun v283 =>
    (aI [0, 6] S x0 (x4 + 3)).bind fun v284 =>
    if v284 = 0 then
    F_Law_law_692 cab N rec23 x0 x1 x2 x3 x4 0 v283 v282 x1 S
    else
    F_Law_law_692 cab N rec23 x0 x1 x2 x3 x4 1 v283 v282 x1 S
set_option maxHeartbeats 4000000 in
set_option maxRecDepth 20000 in
theorem f_Law_law_665 (cab : pm_S → Nat → Int32 → Int32 → Int32 → Nat → Option (Int32 × pm_S)) (sp : pm_I → List Value → pm_S → pm_O → Prop) (hcab : ∀ S a p0 p1 p2 o r, cab S a p0 p1 p2 o = some r → sp mi_Law_cable [.ref a, .int p0, .int p1, .int p2, .ref o] S (some (.int r.1), r.2)) (d N : Nat) (rec23 : Int32 → pm_S → Option (Int32 × pm_S)) (x0 : Nat) (x1 : Nat) (x2 : Nat) (x3 : Nat) (x4 : Int32) (S : pm_S) (hrec23 : ∀ (y1 : Int32) (U : pm_S) (r : (Int32 × pm_S)), rec23 y1 U = some r → pmE pG (pm_rel pG sp (d + 10)) mi_Law_law 23 [some (.ref x0), some (.ref x1), some (.ref x2), some (.ref x3), some (.int y1), none, none] [] U (some (.int r.1), r.2)) (r : (Int32 × pm_S)) (h : F_Law_law_665 cab N rec23 x0 x1 x2 x3 x4 S = some r) : pmE pG (pm_rel pG sp (d + 10)) mi_Law_law 665 [some (.ref x0), some (.ref x1), some (.ref x2), some (.ref x3), some (.int x4), none, none] [] S (some (.int r.1), r.2) := by
  unfold F_Law_law_665 at h
  refine pE_jump 5 (pc' := 671) (ls' := [some (.ref x0), some (.ref x1), some (.ref x2), some (.ref x3), some (.int x4), none, none]) (st' := [.int (x4 + 1), .ref x0, .ref x1]) (fun _ => rfl) ?_
  obtain ⟨v282, hv282, h⟩ := obind h
  refine pE_aI rfl rfl hv282 ?_
  refine pE_jump 4 (pc' := 677) (ls' := [some (.ref x0), some (.ref x1), some (.ref x2), some (.ref x3), some (.int x4), none, none]) (st' := [.int (x4 + 2), .ref x0, .int v282, .ref x1]) (fun _ => rfl) ?_
  obtain ⟨v283, hv283, h⟩ := obind h
  refine pE_aI rfl rfl hv283 ?_
  refine pE_jump 4 (pc' := 683) (ls' := [some (.ref x0), some (.ref x1), some (.ref x2), some (.ref x3), some (.int x4), none, none]) (st' := [.int (x4 + 3), .ref x0, .int v283, .int v282, .ref x1]) (fun _ => rfl) ?_
  obtain ⟨v284, hv284, h⟩ := obind h
  refine pE_aI rfl rfl hv284 ?_
  refine pE_br (v284 = 0) rfl rfl (fun c304 => ?_) (fun c304 => ?_)
  · rw [if_pos c304] at h
    refine pE_jump 1 (pc' := 692) (ls' := [some (.ref x0), some (.ref x1), some (.ref x2), some (.ref x3), some (.int x4), none, none]) (st' := [.int 0, .int v283, .int v282, .ref x1]) (fun _ => rfl) ?_
    exact f_Law_law_692 cab sp hcab d N rec23 x0 x1 x2 x3 x4 0 v283 v282 x1 S hrec23 _ h
  · rw [if_neg c304] at h
    refine pE_jump 2 (pc' := 692) (ls' := [some (.ref x0), some (.ref x1), some (.ref x2), some (.ref x3), some (.int x4), none, none]) (st' := [.int 1, .int v283, .int v282, .ref x1]) (fun _ => rfl) ?_
    exact f_Law_law_692 cab sp hcab d N rec23 x0 x1 x2 x3 x4 1 v283 v282 x1 S hrec23 _ h
def F_Law_law_663 (cab : pm_S → Nat → Int32 → Int32 → Int32 → Nat → Option (Int32 × pm_S)) (N : Nat)   (S : pm_S) : Option (Int32 × pm_S) :=
    some (0, S)
set_option maxHeartbeats 4000000 in
set_option maxRecDepth 20000 in
theorem f_Law_law_663 (cab : pm_S → Nat → Int32 → Int32 → Int32 → Nat → Option (Int32 × pm_S)) (sp : pm_I → List Value → pm_S → pm_O → Prop) (hcab : ∀ S a p0 p1 p2 o r, cab S a p0 p1 p2 o = some r → sp mi_Law_cable [.ref a, .int p0, .int p1, .int p2, .ref o] S (some (.int r.1), r.2)) (d N : Nat)   (S : pm_S)  (r : (Int32 × pm_S)) (h : F_Law_law_663 cab N   S = some r) : pmE pG (pm_rel pG sp (d + 10)) mi_Law_law 663 [none, none, none, none, none, none, none] [] S (some (.int r.1), r.2) := by
  unfold F_Law_law_663 at h
  refine pE_jump 1 (pc' := 664) (ls' := [none, none, none, none, none, none, none]) (st' := [.int 0]) (fun _ => rfl) ?_
  cases h
  exact pE_ret rfl rfl rfl
def F_Law_law_640 (cab : pm_S → Nat → Int32 → Int32 → Int32 → Nat → Option (Int32 × pm_S)) (N : Nat) (rec23 : Int32 → pm_S → Option (Int32 × pm_S)) (x0 : Nat) (x1 : Nat) (x2 : Nat) (x3 : Nat) (x4 : Int32) (S : pm_S) : Option (Int32 × pm_S) :=
    (aI [0, 6] S x0 (x4 + 1)).bind fun v305 =>
    (F_BP_troubles N S x1 v305).bind fun (v307, S306) =>
    (aI [0, 6] S306 x0 (x4 + 1)).bind fun v308 =>
    (F_M_troubles N S306 x2 v308).bind fun (v310, S309) =>
    if v307 = v310 then
    F_Law_law_1958 cab N rec23 x0 x1 x2 x3 x4 S309
    else
    F_Law_law_663 cab N S309
set_option maxHeartbeats 4000000 in
set_option maxRecDepth 20000 in
theorem f_Law_law_640 (cab : pm_S → Nat → Int32 → Int32 → Int32 → Nat → Option (Int32 × pm_S)) (sp : pm_I → List Value → pm_S → pm_O → Prop) (hcab : ∀ S a p0 p1 p2 o r, cab S a p0 p1 p2 o = some r → sp mi_Law_cable [.ref a, .int p0, .int p1, .int p2, .ref o] S (some (.int r.1), r.2)) (d N : Nat) (rec23 : Int32 → pm_S → Option (Int32 × pm_S)) (x0 : Nat) (x1 : Nat) (x2 : Nat) (x3 : Nat) (x4 : Int32) (S : pm_S) (hrec23 : ∀ (y1 : Int32) (U : pm_S) (r : (Int32 × pm_S)), rec23 y1 U = some r → pmE pG (pm_rel pG sp (d + 10)) mi_Law_law 23 [some (.ref x0), some (.ref x1), some (.ref x2), some (.ref x3), some (.int y1), none, none] [] U (some (.int r.1), r.2)) (r : (Int32 × pm_S)) (h : F_Law_law_640 cab N rec23 x0 x1 x2 x3 x4 S = some r) : pmE pG (pm_rel pG sp (d + 10)) mi_Law_law 640 [some (.ref x0), some (.ref x1), some (.ref x2), some (.ref x3), some (.int x4), none, none] [] S (some (.int r.1), r.2) := by
  unfold F_Law_law_640 at h
  refine pE_jump 5 (pc' := 646) (ls' := [some (.ref x0), some (.ref x1), some (.ref x2), some (.ref x3), some (.int x4), none, none]) (st' := [.int (x4 + 1), .ref x0, .ref x1]) (fun _ => rfl) ?_
  obtain ⟨v305, hv305, h⟩ := obind h
  refine pE_aI rfl rfl hv305 ?_
  obtain ⟨⟨v307, S306⟩, hv307, h⟩ := obind h
  try dsimp only at h
  refine pE_iv (Bs := [.int v305]) (st := []) 1 rfl (Or.inl ⟨rfl, rfl⟩) rfl rfl (Nat.le_of_ble_eq_true rfl) (Nat.le_of_ble_eq_true rfl) (g_BP_troubles hv307) (f_BP_troubles sp (d + 8) N S x1 v305 _ hv307) ?_
  refine pE_jump 5 (pc' := 656) (ls' := [some (.ref x0), some (.ref x1), some (.ref x2), some (.ref x3), some (.int x4), none, none]) (st' := [.int (x4 + 1), .ref x0, .ref x2, .int v307]) (fun _ => rfl) ?_
  obtain ⟨v308, hv308, h⟩ := obind h
  refine pE_aI rfl rfl hv308 ?_
  obtain ⟨⟨v310, S309⟩, hv310, h⟩ := obind h
  try dsimp only at h
  refine pE_iv (Bs := [.int v308]) (st := [.int v307]) 1 rfl (Or.inl ⟨rfl, rfl⟩) rfl rfl (Nat.le_of_ble_eq_true rfl) (Nat.le_of_ble_eq_true rfl) (g_M_troubles hv310) (f_M_troubles sp (d + 8) N S306 x2 v308 _ hv310) ?_
  refine pE_br (v307 = v310) rfl rfl (fun c311 => ?_) (fun c311 => ?_)
  · rw [if_pos c311] at h
    exact f_Law_law_1958 cab sp hcab d N rec23 x0 x1 x2 x3 x4 S309 hrec23 _ h
  · rw [if_neg c311] at h
    refine pE_weak [none, none, none, none, none, none, none] trivial ?_
    exact f_Law_law_663 cab sp hcab d N S309 _ h
def F_Law_law_638 (cab : pm_S → Nat → Int32 → Int32 → Int32 → Nat → Option (Int32 × pm_S)) (N : Nat)   (S : pm_S) : Option (Int32 × pm_S) :=
    some (0, S)
set_option maxHeartbeats 4000000 in
set_option maxRecDepth 20000 in
theorem f_Law_law_638 (cab : pm_S → Nat → Int32 → Int32 → Int32 → Nat → Option (Int32 × pm_S)) (sp : pm_I → List Value → pm_S → pm_O → Prop) (hcab : ∀ S a p0 p1 p2 o r, cab S a p0 p1 p2 o = some r → sp mi_Law_cable [.ref a, .int p0, .int p1, .int p2, .ref o] S (some (.int r.1), r.2)) (d N : Nat)   (S : pm_S)  (r : (Int32 × pm_S)) (h : F_Law_law_638 cab N   S = some r) : pmE pG (pm_rel pG sp (d + 10)) mi_Law_law 638 [none, none, none, none, none, none, none] [] S (some (.int r.1), r.2) := by
  unfold F_Law_law_638 at h
  refine pE_jump 1 (pc' := 639) (ls' := [none, none, none, none, none, none, none]) (st' := [.int 0]) (fun _ => rfl) ?_
  cases h
  exact pE_ret rfl rfl rfl
def F_Law_law_553 (cab : pm_S → Nat → Int32 → Int32 → Int32 → Nat → Option (Int32 × pm_S)) (N : Nat) (rec23 : Int32 → pm_S → Option (Int32 × pm_S)) (x0 : Nat) (x1 : Nat) (x2 : Nat) (x3 : Nat) (x4 : Int32) (S : pm_S) : Option (Int32 × pm_S) :=
    (aI [0, 6] S x0 (x4 + 1)).bind fun v312 =>
    (aI [0, 6] S x0 (x4 + 2)).bind fun v313 =>
    (aI [0, 6] S x0 (x4 + 3)).bind fun v314 =>
    (aI [0, 6] S x0 (x4 + 4)).bind fun v315 =>
    (aI [0, 6] S x0 (x4 + 5)).bind fun v316 =>
    (aI [0, 6] S x0 (x4 + 6)).bind fun v317 =>
    (F_BP_trouble N S x1 v312 v313 v314 v315 v316 v317).bind fun (v319, S318) =>
    (aI [0, 6] S318 x0 (x4 + 1)).bind fun v320 =>
    (aI [0, 6] S318 x0 (x4 + 2)).bind fun v321 =>
    (aI [0, 6] S318 x0 (x4 + 3)).bind fun v322 =>
    (aI [0, 6] S318 x0 (x4 + 4)).bind fun v323 =>
    (aI [0, 6] S318 x0 (x4 + 5)).bind fun v324 =>
    (aI [0, 6] S318 x0 (x4 + 6)).bind fun v325 =>
    (F_M_trouble N S318 x2 v320 v321 v322 v323 v324 v325).bind fun (v327, S326) =>
    if v319 = v327 then
    F_Law_law_1958 cab N rec23 x0 x1 x2 x3 x4 S326
    else
    F_Law_law_638 cab N S326
set_option maxHeartbeats 4000000 in
set_option maxRecDepth 20000 in
theorem f_Law_law_553 (cab : pm_S → Nat → Int32 → Int32 → Int32 → Nat → Option (Int32 × pm_S)) (sp : pm_I → List Value → pm_S → pm_O → Prop) (hcab : ∀ S a p0 p1 p2 o r, cab S a p0 p1 p2 o = some r → sp mi_Law_cable [.ref a, .int p0, .int p1, .int p2, .ref o] S (some (.int r.1), r.2)) (d N : Nat) (rec23 : Int32 → pm_S → Option (Int32 × pm_S)) (x0 : Nat) (x1 : Nat) (x2 : Nat) (x3 : Nat) (x4 : Int32) (S : pm_S) (hrec23 : ∀ (y1 : Int32) (U : pm_S) (r : (Int32 × pm_S)), rec23 y1 U = some r → pmE pG (pm_rel pG sp (d + 10)) mi_Law_law 23 [some (.ref x0), some (.ref x1), some (.ref x2), some (.ref x3), some (.int y1), none, none] [] U (some (.int r.1), r.2)) (r : (Int32 × pm_S)) (h : F_Law_law_553 cab N rec23 x0 x1 x2 x3 x4 S = some r) : pmE pG (pm_rel pG sp (d + 10)) mi_Law_law 553 [some (.ref x0), some (.ref x1), some (.ref x2), some (.ref x3), some (.int x4), none, none] [] S (some (.int r.1), r.2) := by
  unfold F_Law_law_553 at h
  refine pE_jump 5 (pc' := 559) (ls' := [some (.ref x0), some (.ref x1), some (.ref x2), some (.ref x3), some (.int x4), none, none]) (st' := [.int (x4 + 1), .ref x0, .ref x1]) (fun _ => rfl) ?_
  obtain ⟨v312, hv312, h⟩ := obind h
  refine pE_aI rfl rfl hv312 ?_
  refine pE_jump 4 (pc' := 565) (ls' := [some (.ref x0), some (.ref x1), some (.ref x2), some (.ref x3), some (.int x4), none, none]) (st' := [.int (x4 + 2), .ref x0, .int v312, .ref x1]) (fun _ => rfl) ?_
  obtain ⟨v313, hv313, h⟩ := obind h
  refine pE_aI rfl rfl hv313 ?_
  refine pE_jump 4 (pc' := 571) (ls' := [some (.ref x0), some (.ref x1), some (.ref x2), some (.ref x3), some (.int x4), none, none]) (st' := [.int (x4 + 3), .ref x0, .int v313, .int v312, .ref x1]) (fun _ => rfl) ?_
  obtain ⟨v314, hv314, h⟩ := obind h
  refine pE_aI rfl rfl hv314 ?_
  refine pE_jump 4 (pc' := 577) (ls' := [some (.ref x0), some (.ref x1), some (.ref x2), some (.ref x3), some (.int x4), none, none]) (st' := [.int (x4 + 4), .ref x0, .int v314, .int v313, .int v312, .ref x1]) (fun _ => rfl) ?_
  obtain ⟨v315, hv315, h⟩ := obind h
  refine pE_aI rfl rfl hv315 ?_
  refine pE_jump 4 (pc' := 583) (ls' := [some (.ref x0), some (.ref x1), some (.ref x2), some (.ref x3), some (.int x4), none, none]) (st' := [.int (x4 + 5), .ref x0, .int v315, .int v314, .int v313, .int v312, .ref x1]) (fun _ => rfl) ?_
  obtain ⟨v316, hv316, h⟩ := obind h
  refine pE_aI rfl rfl hv316 ?_
  refine pE_jump 4 (pc' := 590) (ls' := [some (.ref x0), some (.ref x1), some (.ref x2), some (.ref x3), some (.int x4), none, none]) (st' := [.int (x4 + 6), .ref x0, .int v316, .int v315, .int v314, .int v313, .int v312, .ref x1]) (fun _ => rfl) ?_
  obtain ⟨v317, hv317, h⟩ := obind h
  refine pE_aI rfl rfl hv317 ?_
  obtain ⟨⟨v319, S318⟩, hv319, h⟩ := obind h
  try dsimp only at h
  refine pE_iv (Bs := [.int v312, .int v313, .int v314, .int v315, .int v316, .int v317]) (st := []) 1 rfl (Or.inl ⟨rfl, rfl⟩) rfl rfl (Nat.le_of_ble_eq_true rfl) (Nat.le_of_ble_eq_true rfl) (g_BP_trouble hv319) (f_BP_trouble sp (d + 5) N S x1 v312 v313 v314 v315 v316 v317 _ hv319) ?_
  refine pE_jump 5 (pc' := 600) (ls' := [some (.ref x0), some (.ref x1), some (.ref x2), some (.ref x3), some (.int x4), none, none]) (st' := [.int (x4 + 1), .ref x0, .ref x2, .int v319]) (fun _ => rfl) ?_
  obtain ⟨v320, hv320, h⟩ := obind h
  refine pE_aI rfl rfl hv320 ?_
  refine pE_jump 4 (pc' := 606) (ls' := [some (.ref x0), some (.ref x1), some (.ref x2), some (.ref x3), some (.int x4), none, none]) (st' := [.int (x4 + 2), .ref x0, .int v320, .ref x2, .int v319]) (fun _ => rfl) ?_
  obtain ⟨v321, hv321, h⟩ := obind h
  refine pE_aI rfl rfl hv321 ?_
  refine pE_jump 4 (pc' := 612) (ls' := [some (.ref x0), some (.ref x1), some (.ref x2), some (.ref x3), some (.int x4), none, none]) (st' := [.int (x4 + 3), .ref x0, .int v321, .int v320, .ref x2, .int v319]) (fun _ => rfl) ?_
  obtain ⟨v322, hv322, h⟩ := obind h
  refine pE_aI rfl rfl hv322 ?_
  refine pE_jump 4 (pc' := 618) (ls' := [some (.ref x0), some (.ref x1), some (.ref x2), some (.ref x3), some (.int x4), none, none]) (st' := [.int (x4 + 4), .ref x0, .int v322, .int v321, .int v320, .ref x2, .int v319]) (fun _ => rfl) ?_
  obtain ⟨v323, hv323, h⟩ := obind h
  refine pE_aI rfl rfl hv323 ?_
  refine pE_jump 4 (pc' := 624) (ls' := [some (.ref x0), some (.ref x1), some (.ref x2), some (.ref x3), some (.int x4), none, none]) (st' := [.int (x4 + 5), .ref x0, .int v323, .int v322, .int v321, .int v320, .ref x2, .int v319]) (fun _ => rfl) ?_
  obtain ⟨v324, hv324, h⟩ := obind h
  refine pE_aI rfl rfl hv324 ?_
  refine pE_jump 4 (pc' := 631) (ls' := [some (.ref x0), some (.ref x1), some (.ref x2), some (.ref x3), some (.int x4), none, none]) (st' := [.int (x4 + 6), .ref x0, .int v324, .int v323, .int v322, .int v321, .int v320, .ref x2, .int v319]) (fun _ => rfl) ?_
  obtain ⟨v325, hv325, h⟩ := obind h
  refine pE_aI rfl rfl hv325 ?_
  obtain ⟨⟨v327, S326⟩, hv327, h⟩ := obind h
  try dsimp only at h
  refine pE_iv (Bs := [.int v320, .int v321, .int v322, .int v323, .int v324, .int v325]) (st := [.int v319]) 1 rfl (Or.inl ⟨rfl, rfl⟩) rfl rfl (Nat.le_of_ble_eq_true rfl) (Nat.le_of_ble_eq_true rfl) (g_M_trouble hv327) (f_M_trouble sp (d + 6) N S318 x2 v320 v321 v322 v323 v324 v325 _ hv327) ?_
  refine pE_br (v319 = v327) rfl rfl (fun c328 => ?_) (fun c328 => ?_)
  · rw [if_pos c328] at h
    exact f_Law_law_1958 cab sp hcab d N rec23 x0 x1 x2 x3 x4 S326 hrec23 _ h
  · rw [if_neg c328] at h
    refine pE_weak [none, none, none, none, none, none, none] trivial ?_
    exact f_Law_law_638 cab sp hcab d N S326 _ h
def F_Law_law_551 (cab : pm_S → Nat → Int32 → Int32 → Int32 → Nat → Option (Int32 × pm_S)) (N : Nat)   (S : pm_S) : Option (Int32 × pm_S) :=
    some (0, S)
set_option maxHeartbeats 4000000 in
set_option maxRecDepth 20000 in
theorem f_Law_law_551 (cab : pm_S → Nat → Int32 → Int32 → Int32 → Nat → Option (Int32 × pm_S)) (sp : pm_I → List Value → pm_S → pm_O → Prop) (hcab : ∀ S a p0 p1 p2 o r, cab S a p0 p1 p2 o = some r → sp mi_Law_cable [.ref a, .int p0, .int p1, .int p2, .ref o] S (some (.int r.1), r.2)) (d N : Nat)   (S : pm_S)  (r : (Int32 × pm_S)) (h : F_Law_law_551 cab N   S = some r) : pmE pG (pm_rel pG sp (d + 10)) mi_Law_law 551 [none, none, none, none, none, none, none] [] S (some (.int r.1), r.2) := by
  unfold F_Law_law_551 at h
  refine pE_jump 1 (pc' := 552) (ls' := [none, none, none, none, none, none, none]) (st' := [.int 0]) (fun _ => rfl) ?_
  cases h
  exact pE_ret rfl rfl rfl
def F_Law_law_466 (cab : pm_S → Nat → Int32 → Int32 → Int32 → Nat → Option (Int32 × pm_S)) (N : Nat) (rec23 : Int32 → pm_S → Option (Int32 × pm_S)) (x0 : Nat) (x1 : Nat) (x2 : Nat) (x3 : Nat) (x4 : Int32) (S : pm_S) : Option (Int32 × pm_S) :=
    (aI [0, 6] S x0 (x4 + 1)).bind fun v329 =>
    (aI [0, 6] S x0 (x4 + 2)).bind fun v330 =>
    (aI [0, 6] S x0 (x4 + 3)).bind fun v331 =>
    (aI [0, 6] S x0 (x4 + 4)).bind fun v332 =>
    (aI [0, 6] S x0 (x4 + 5)).bind fun v333 =>
    (aI [0, 6] S x0 (x4 + 6)).bind fun v334 =>
    (F_BP_slip N S x1 v329 v330 v331 v332 v333 v334).bind fun (v336, S335) =>
    (aI [0, 6] S335 x0 (x4 + 1)).bind fun v337 =>
    (aI [0, 6] S335 x0 (x4 + 2)).bind fun v338 =>
    (aI [0, 6] S335 x0 (x4 + 3)).bind fun v339 =>
    (aI [0, 6] S335 x0 (x4 + 4)).bind fun v340 =>
    (aI [0, 6] S335 x0 (x4 + 5)).bind fun v341 =>
    (aI [0, 6] S335 x0 (x4 + 6)).bind fun v342 =>
    (F_M_slip N S335 x2 v337 v338 v339 v340 v341 v342).bind fun (v344, S343) =>
    if v336 = v344 then
    F_Law_law_1958 cab N rec23 x0 x1 x2 x3 x4 S343
    else
    F_Law_law_551 cab N S343
set_option maxHeartbeats 4000000 in
set_option maxRecDepth 20000 in
theorem f_Law_law_466 (cab : pm_S → Nat → Int32 → Int32 → Int32 → Nat → Option (Int32 × pm_S)) (sp : pm_I → List Value → pm_S → pm_O → Prop) (hcab : ∀ S a p0 p1 p2 o r, cab S a p0 p1 p2 o = some r → sp mi_Law_cable [.ref a, .int p0, .int p1, .int p2, .ref o] S (some (.int r.1), r.2)) (d N : Nat) (rec23 : Int32 → pm_S → Option (Int32 × pm_S)) (x0 : Nat) (x1 : Nat) (x2 : Nat) (x3 : Nat) (x4 : Int32) (S : pm_S) (hrec23 : ∀ (y1 : Int32) (U : pm_S) (r : (Int32 × pm_S)), rec23 y1 U = some r → pmE pG (pm_rel pG sp (d + 10)) mi_Law_law 23 [some (.ref x0), some (.ref x1), some (.ref x2), some (.ref x3), some (.int y1), none, none] [] U (some (.int r.1), r.2)) (r : (Int32 × pm_S)) (h : F_Law_law_466 cab N rec23 x0 x1 x2 x3 x4 S = some r) : pmE pG (pm_rel pG sp (d + 10)) mi_Law_law 466 [some (.ref x0), some (.ref x1), some (.ref x2), some (.ref x3), some (.int x4), none, none] [] S (some (.int r.1), r.2) := by
  unfold F_Law_law_466 at h
  refine pE_jump 5 (pc' := 472) (ls' := [some (.ref x0), some (.ref x1), some (.ref x2), some (.ref x3), some (.int x4), none, none]) (st' := [.int (x4 + 1), .ref x0, .ref x1]) (fun _ => rfl) ?_
  obtain ⟨v329, hv329, h⟩ := obind h
  refine pE_aI rfl rfl hv329 ?_
  refine pE_jump 4 (pc' := 478) (ls' := [some (.ref x0), some (.ref x1), some (.ref x2), some (.ref x3), some (.int x4), none, none]) (st' := [.int (x4 + 2), .ref x0, .int v329, .ref x1]) (fun _ => rfl) ?_
  obtain ⟨v330, hv330, h⟩ := obind h
  refine pE_aI rfl rfl hv330 ?_
  refine pE_jump 4 (pc' := 484) (ls' := [some (.ref x0), some (.ref x1), some (.ref x2), some (.ref x3), some (.int x4), none, none]) (st' := [.int (x4 + 3), .ref x0, .int v330, .int v329, .ref x1]) (fun _ => rfl) ?_
  obtain ⟨v331, hv331, h⟩ := obind h
  refine pE_aI rfl rfl hv331 ?_
  refine pE_jump 4 (pc' := 490) (ls' := [some (.ref x0), some (.ref x1), some (.ref x2), some (.ref x3), some (.int x4), none, none]) (st' := [.int (x4 + 4), .ref x0, .int v331, .int v330, .int v329, .ref x1]) (fun _ => rfl) ?_
  obtain ⟨v332, hv332, h⟩ := obind h
  refine pE_aI rfl rfl hv332 ?_
  refine pE_jump 4 (pc' := 496) (ls' := [some (.ref x0), some (.ref x1), some (.ref x2), some (.ref x3), some (.int x4), none, none]) (st' := [.int (x4 + 5), .ref x0, .int v332, .int v331, .int v330, .int v329, .ref x1]) (fun _ => rfl) ?_
  obtain ⟨v333, hv333, h⟩ := obind h
  refine pE_aI rfl rfl hv333 ?_
  refine pE_jump 4 (pc' := 503) (ls' := [some (.ref x0), some (.ref x1), some (.ref x2), some (.ref x3), some (.int x4), none, none]) (st' := [.int (x4 + 6), .ref x0, .int v333, .int v332, .int v331, .int v330, .int v329, .ref x1]) (fun _ => rfl) ?_
  obtain ⟨v334, hv334, h⟩ := obind h
  refine pE_aI rfl rfl hv334 ?_
  obtain ⟨⟨v336, S335⟩, hv336, h⟩ := obind h
  try dsimp only at h
  refine pE_iv (Bs := [.int v329, .int v330, .int v331, .int v332, .int v333, .int v334]) (st := []) 1 rfl (Or.inl ⟨rfl, rfl⟩) rfl rfl (Nat.le_of_ble_eq_true rfl) (Nat.le_of_ble_eq_true rfl) (g_BP_slip hv336) (f_BP_slip sp (d + 5) N S x1 v329 v330 v331 v332 v333 v334 _ hv336) ?_
  refine pE_jump 5 (pc' := 513) (ls' := [some (.ref x0), some (.ref x1), some (.ref x2), some (.ref x3), some (.int x4), none, none]) (st' := [.int (x4 + 1), .ref x0, .ref x2, .int v336]) (fun _ => rfl) ?_
  obtain ⟨v337, hv337, h⟩ := obind h
  refine pE_aI rfl rfl hv337 ?_
  refine pE_jump 4 (pc' := 519) (ls' := [some (.ref x0), some (.ref x1), some (.ref x2), some (.ref x3), some (.int x4), none, none]) (st' := [.int (x4 + 2), .ref x0, .int v337, .ref x2, .int v336]) (fun _ => rfl) ?_
  obtain ⟨v338, hv338, h⟩ := obind h
  refine pE_aI rfl rfl hv338 ?_
  refine pE_jump 4 (pc' := 525) (ls' := [some (.ref x0), some (.ref x1), some (.ref x2), some (.ref x3), some (.int x4), none, none]) (st' := [.int (x4 + 3), .ref x0, .int v338, .int v337, .ref x2, .int v336]) (fun _ => rfl) ?_
  obtain ⟨v339, hv339, h⟩ := obind h
  refine pE_aI rfl rfl hv339 ?_
  refine pE_jump 4 (pc' := 531) (ls' := [some (.ref x0), some (.ref x1), some (.ref x2), some (.ref x3), some (.int x4), none, none]) (st' := [.int (x4 + 4), .ref x0, .int v339, .int v338, .int v337, .ref x2, .int v336]) (fun _ => rfl) ?_
  obtain ⟨v340, hv340, h⟩ := obind h
  refine pE_aI rfl rfl hv340 ?_
  refine pE_jump 4 (pc' := 537) (ls' := [some (.ref x0), some (.ref x1), some (.ref x2), some (.ref x3), some (.int x4), none, none]) (st' := [.int (x4 + 5), .ref x0, .int v340, .int v339, .int v338, .int v337, .ref x2, .int v336]) (fun _ => rfl) ?_
  obtain ⟨v341, hv341, h⟩ := obind h
  refine pE_aI rfl rfl hv341 ?_
  refine pE_jump 4 (pc' := 544) (ls' := [some (.ref x0), some (.ref x1), some (.ref x2), some (.ref x3), some (.int x4), none, none]) (st' := [.int (x4 + 6), .ref x0, .int v341, .int v340, .int v339, .int v338, .int v337, .ref x2, .int v336]) (fun _ => rfl) ?_
  obtain ⟨v342, hv342, h⟩ := obind h
  refine pE_aI rfl rfl hv342 ?_
  obtain ⟨⟨v344, S343⟩, hv344, h⟩ := obind h
  try dsimp only at h
  refine pE_iv (Bs := [.int v337, .int v338, .int v339, .int v340, .int v341, .int v342]) (st := [.int v336]) 1 rfl (Or.inl ⟨rfl, rfl⟩) rfl rfl (Nat.le_of_ble_eq_true rfl) (Nat.le_of_ble_eq_true rfl) (g_M_slip hv344) (f_M_slip sp (d + 6) N S335 x2 v337 v338 v339 v340 v341 v342 _ hv344) ?_
  refine pE_br (v336 = v344) rfl rfl (fun c345 => ?_) (fun c345 => ?_)
  · rw [if_pos c345] at h
    exact f_Law_law_1958 cab sp hcab d N rec23 x0 x1 x2 x3 x4 S343 hrec23 _ h
  · rw [if_neg c345] at h
    refine pE_weak [none, none, none, none, none, none, none] trivial ?_
    exact f_Law_law_551 cab sp hcab d N S343 _ h
def F_Law_law_464 (cab : pm_S → Nat → Int32 → Int32 → Int32 → Nat → Option (Int32 × pm_S)) (N : Nat)   (S : pm_S) : Option (Int32 × pm_S) :=
    some (0, S)
set_option maxHeartbeats 4000000 in
set_option maxRecDepth 20000 in
theorem f_Law_law_464 (cab : pm_S → Nat → Int32 → Int32 → Int32 → Nat → Option (Int32 × pm_S)) (sp : pm_I → List Value → pm_S → pm_O → Prop) (hcab : ∀ S a p0 p1 p2 o r, cab S a p0 p1 p2 o = some r → sp mi_Law_cable [.ref a, .int p0, .int p1, .int p2, .ref o] S (some (.int r.1), r.2)) (d N : Nat)   (S : pm_S)  (r : (Int32 × pm_S)) (h : F_Law_law_464 cab N   S = some r) : pmE pG (pm_rel pG sp (d + 10)) mi_Law_law 464 [none, none, none, none, none, none, none] [] S (some (.int r.1), r.2) := by
  unfold F_Law_law_464 at h
  refine pE_jump 1 (pc' := 465) (ls' := [none, none, none, none, none, none, none]) (st' := [.int 0]) (fun _ => rfl) ?_
  cases h
  exact pE_ret rfl rfl rfl
def F_Law_law_429 (cab : pm_S → Nat → Int32 → Int32 → Int32 → Nat → Option (Int32 × pm_S)) (N : Nat) (rec23 : Int32 → pm_S → Option (Int32 × pm_S)) (x0 : Nat) (x1 : Nat) (x2 : Nat) (x3 : Nat) (x4 : Int32) (S : pm_S) : Option (Int32 × pm_S) :=
    (aI [0, 6] S x0 (x4 + 1)).bind fun v346 =>
    (aI [0, 6] S x0 (x4 + 2)).bind fun v347 =>
    (F_BP_house N S x1 v346 v347).bind fun (v349, S348) =>
    (aI [0, 6] S348 x0 (x4 + 1)).bind fun v350 =>
    (aI [0, 6] S348 x0 (x4 + 2)).bind fun v351 =>
    (F_M_house N S348 x2 v350 v351).bind fun (v353, S352) =>
    if v349 = v353 then
    F_Law_law_1958 cab N rec23 x0 x1 x2 x3 x4 S352
    else
    F_Law_law_464 cab N S352
set_option maxHeartbeats 4000000 in
set_option maxRecDepth 20000 in
theorem f_Law_law_429 (cab : pm_S → Nat → Int32 → Int32 → Int32 → Nat → Option (Int32 × pm_S)) (sp : pm_I → List Value → pm_S → pm_O → Prop) (hcab : ∀ S a p0 p1 p2 o r, cab S a p0 p1 p2 o = some r → sp mi_Law_cable [.ref a, .int p0, .int p1, .int p2, .ref o] S (some (.int r.1), r.2)) (d N : Nat) (rec23 : Int32 → pm_S → Option (Int32 × pm_S)) (x0 : Nat) (x1 : Nat) (x2 : Nat) (x3 : Nat) (x4 : Int32) (S : pm_S) (hrec23 : ∀ (y1 : Int32) (U : pm_S) (r : (Int32 × pm_S)), rec23 y1 U = some r → pmE pG (pm_rel pG sp (d + 10)) mi_Law_law 23 [some (.ref x0), some (.ref x1), some (.ref x2), some (.ref x3), some (.int y1), none, none] [] U (some (.int r.1), r.2)) (r : (Int32 × pm_S)) (h : F_Law_law_429 cab N rec23 x0 x1 x2 x3 x4 S = some r) : pmE pG (pm_rel pG sp (d + 10)) mi_Law_law 429 [some (.ref x0), some (.ref x1), some (.ref x2), some (.ref x3), some (.int x4), none, none] [] S (some (.int r.1), r.2) := by
  unfold F_Law_law_429 at h
  refine pE_jump 5 (pc' := 435) (ls' := [some (.ref x0), some (.ref x1), some (.ref x2), some (.ref x3), some (.int x4), none, none]) (st' := [.int (x4 + 1), .ref x0, .ref x1]) (fun _ => rfl) ?_
  obtain ⟨v346, hv346, h⟩ := obind h
  refine pE_aI rfl rfl hv346 ?_
  refine pE_jump 4 (pc' := 441) (ls' := [some (.ref x0), some (.ref x1), some (.ref x2), some (.ref x3), some (.int x4), none, none]) (st' := [.int (x4 + 2), .ref x0, .int v346, .ref x1]) (fun _ => rfl) ?_
  obtain ⟨v347, hv347, h⟩ := obind h
  refine pE_aI rfl rfl hv347 ?_
  obtain ⟨⟨v349, S348⟩, hv349, h⟩ := obind h
  try dsimp only at h
  refine pE_iv (Bs := [.int v346, .int v347]) (st := []) 1 rfl (Or.inl ⟨rfl, rfl⟩) rfl rfl (Nat.le_of_ble_eq_true rfl) (Nat.le_of_ble_eq_true rfl) (g_BP_house hv349) (f_BP_house sp (d + 8) N S x1 v346 v347 _ hv349) ?_
  refine pE_jump 5 (pc' := 451) (ls' := [some (.ref x0), some (.ref x1), some (.ref x2), some (.ref x3), some (.int x4), none, none]) (st' := [.int (x4 + 1), .ref x0, .ref x2, .int v349]) (fun _ => rfl) ?_
  obtain ⟨v350, hv350, h⟩ := obind h
  refine pE_aI rfl rfl hv350 ?_
  refine pE_jump 4 (pc' := 457) (ls' := [some (.ref x0), some (.ref x1), some (.ref x2), some (.ref x3), some (.int x4), none, none]) (st' := [.int (x4 + 2), .ref x0, .int v350, .ref x2, .int v349]) (fun _ => rfl) ?_
  obtain ⟨v351, hv351, h⟩ := obind h
  refine pE_aI rfl rfl hv351 ?_
  obtain ⟨⟨v353, S352⟩, hv353, h⟩ := obind h
  try dsimp only at h
  refine pE_iv (Bs := [.int v350, .int v351]) (st := [.int v349]) 1 rfl (Or.inl ⟨rfl, rfl⟩) rfl rfl (Nat.le_of_ble_eq_true rfl) (Nat.le_of_ble_eq_true rfl) (g_M_house hv353) (f_M_house sp (d + 6) N S348 x2 v350 v351 _ hv353) ?_
  refine pE_br (v349 = v353) rfl rfl (fun c354 => ?_) (fun c354 => ?_)
  · rw [if_pos c354] at h
    exact f_Law_law_1958 cab sp hcab d N rec23 x0 x1 x2 x3 x4 S352 hrec23 _ h
  · rw [if_neg c354] at h
    refine pE_weak [none, none, none, none, none, none, none] trivial ?_
    exact f_Law_law_464 cab sp hcab d N S352 _ h
def F_Law_law_427 (cab : pm_S → Nat → Int32 → Int32 → Int32 → Nat → Option (Int32 × pm_S)) (N : Nat)   (S : pm_S) : Option (Int32 × pm_S) :=
    some (0, S)
set_option maxHeartbeats 4000000 in
set_option maxRecDepth 20000 in
theorem f_Law_law_427 (cab : pm_S → Nat → Int32 → Int32 → Int32 → Nat → Option (Int32 × pm_S)) (sp : pm_I → List Value → pm_S → pm_O → Prop) (hcab : ∀ S a p0 p1 p2 o r, cab S a p0 p1 p2 o = some r → sp mi_Law_cable [.ref a, .int p0, .int p1, .int p2, .ref o] S (some (.int r.1), r.2)) (d N : Nat)   (S : pm_S)  (r : (Int32 × pm_S)) (h : F_Law_law_427 cab N   S = some r) : pmE pG (pm_rel pG sp (d + 10)) mi_Law_law 427 [none, none, none, none, none, none, none] [] S (some (.int r.1), r.2) := by
  unfold F_Law_law_427 at h
  refine pE_jump 1 (pc' := 428) (ls' := [none, none, none, none, none, none, none]) (st' := [.int 0]) (fun _ => rfl) ?_
  cases h
  exact pE_ret rfl rfl rfl
def F_Law_law_380 (cab : pm_S → Nat → Int32 → Int32 → Int32 → Nat → Option (Int32 × pm_S)) (N : Nat) (rec23 : Int32 → pm_S → Option (Int32 × pm_S)) (x0 : Nat) (x1 : Nat) (x2 : Nat) (x3 : Nat) (x4 : Int32) (S : pm_S) : Option (Int32 × pm_S) :=
    (aI [0, 6] S x0 (x4 + 1)).bind fun v355 =>
    (aI [0, 6] S x0 (x4 + 2)).bind fun v356 =>
    (aI [0, 6] S x0 (x4 + 3)).bind fun v357 =>
    (F_BP_joint N S x1 v355 v356 v357).bind fun (v359, S358) =>
    (aI [0, 6] S358 x0 (x4 + 1)).bind fun v360 =>
    (aI [0, 6] S358 x0 (x4 + 2)).bind fun v361 =>
    (aI [0, 6] S358 x0 (x4 + 3)).bind fun v362 =>
    (F_M_joint N S358 x2 v360 v361 v362).bind fun (v364, S363) =>
    if v359 = v364 then
    F_Law_law_1958 cab N rec23 x0 x1 x2 x3 x4 S363
    else
    F_Law_law_427 cab N S363
set_option maxHeartbeats 4000000 in
set_option maxRecDepth 20000 in
theorem f_Law_law_380 (cab : pm_S → Nat → Int32 → Int32 → Int32 → Nat → Option (Int32 × pm_S)) (sp : pm_I → List Value → pm_S → pm_O → Prop) (hcab : ∀ S a p0 p1 p2 o r, cab S a p0 p1 p2 o = some r → sp mi_Law_cable [.ref a, .int p0, .int p1, .int p2, .ref o] S (some (.int r.1), r.2)) (d N : Nat) (rec23 : Int32 → pm_S → Option (Int32 × pm_S)) (x0 : Nat) (x1 : Nat) (x2 : Nat) (x3 : Nat) (x4 : Int32) (S : pm_S) (hrec23 : ∀ (y1 : Int32) (U : pm_S) (r : (Int32 × pm_S)), rec23 y1 U = some r → pmE pG (pm_rel pG sp (d + 10)) mi_Law_law 23 [some (.ref x0), some (.ref x1), some (.ref x2), some (.ref x3), some (.int y1), none, none] [] U (some (.int r.1), r.2)) (r : (Int32 × pm_S)) (h : F_Law_law_380 cab N rec23 x0 x1 x2 x3 x4 S = some r) : pmE pG (pm_rel pG sp (d + 10)) mi_Law_law 380 [some (.ref x0), some (.ref x1), some (.ref x2), some (.ref x3), some (.int x4), none, none] [] S (some (.int r.1), r.2) := by
  unfold F_Law_law_380 at h
  refine pE_jump 5 (pc' := 386) (ls' := [some (.ref x0), some (.ref x1), some (.ref x2), some (.ref x3), some (.int x4), none, none]) (st' := [.int (x4 + 1), .ref x0, .ref x1]) (fun _ => rfl) ?_
  obtain ⟨v355, hv355, h⟩ := obind h
  refine pE_aI rfl rfl hv355 ?_
  refine pE_jump 4 (pc' := 392) (ls' := [some (.ref x0), some (.ref x1), some (.ref x2), some (.ref x3), some (.int x4), none, none]) (st' := [.int (x4 + 2), .ref x0, .int v355, .ref x1]) (fun _ => rfl) ?_
  obtain ⟨v356, hv356, h⟩ := obind h
  refine pE_aI rfl rfl hv356 ?_
  refine pE_jump 4 (pc' := 398) (ls' := [some (.ref x0), some (.ref x1), some (.ref x2), some (.ref x3), some (.int x4), none, none]) (st' := [.int (x4 + 3), .ref x0, .int v356, .int v355, .ref x1]) (fun _ => rfl) ?_
  obtain ⟨v357, hv357, h⟩ := obind h
  refine pE_aI rfl rfl hv357 ?_
  obtain ⟨⟨v359, S358⟩, hv359, h⟩ := obind h
  try dsimp only at h
  refine pE_iv (Bs := [.int v355, .int v356, .int v357]) (st := []) 1 rfl (Or.inl ⟨rfl, rfl⟩) rfl rfl (Nat.le_of_ble_eq_true rfl) (Nat.le_of_ble_eq_true rfl) (g_BP_joint hv359) (f_BP_joint sp (d + 6) N S x1 v355 v356 v357 _ hv359) ?_
  refine pE_jump 5 (pc' := 408) (ls' := [some (.ref x0), some (.ref x1), some (.ref x2), some (.ref x3), some (.int x4), none, none]) (st' := [.int (x4 + 1), .ref x0, .ref x2, .int v359]) (fun _ => rfl) ?_
  obtain ⟨v360, hv360, h⟩ := obind h
  refine pE_aI rfl rfl hv360 ?_
  refine pE_jump 4 (pc' := 414) (ls' := [some (.ref x0), some (.ref x1), some (.ref x2), some (.ref x3), some (.int x4), none, none]) (st' := [.int (x4 + 2), .ref x0, .int v360, .ref x2, .int v359]) (fun _ => rfl) ?_
  obtain ⟨v361, hv361, h⟩ := obind h
  refine pE_aI rfl rfl hv361 ?_
  refine pE_jump 4 (pc' := 420) (ls' := [some (.ref x0), some (.ref x1), some (.ref x2), some (.ref x3), some (.int x4), none, none]) (st' := [.int (x4 + 3), .ref x0, .int v361, .int v360, .ref x2, .int v359]) (fun _ => rfl) ?_
  obtain ⟨v362, hv362, h⟩ := obind h
  refine pE_aI rfl rfl hv362 ?_
  obtain ⟨⟨v364, S363⟩, hv364, h⟩ := obind h
  try dsimp only at h
  refine pE_iv (Bs := [.int v360, .int v361, .int v362]) (st := [.int v359]) 1 rfl (Or.inl ⟨rfl, rfl⟩) rfl rfl (Nat.le_of_ble_eq_true rfl) (Nat.le_of_ble_eq_true rfl) (g_M_joint hv364) (f_M_joint sp (d + 6) N S358 x2 v360 v361 v362 _ hv364) ?_
  refine pE_br (v359 = v364) rfl rfl (fun c365 => ?_) (fun c365 => ?_)
  · rw [if_pos c365] at h
    exact f_Law_law_1958 cab sp hcab d N rec23 x0 x1 x2 x3 x4 S363 hrec23 _ h
  · rw [if_neg c365] at h
    refine pE_weak [none, none, none, none, none, none, none] trivial ?_
    exact f_Law_law_427 cab sp hcab d N S363 _ h
