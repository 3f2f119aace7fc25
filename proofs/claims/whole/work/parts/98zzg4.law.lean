def F_Law_law_377 (cab : pm_S → Nat → Int32 → Int32 → Int32 → Nat → Option (Int32 × pm_S)) (N : Nat) (rec23 : Int32 → pm_S → Option (Int32 × pm_S)) (x0 : Nat) (x1 : Nat) (x2 : Nat) (x3 : Nat) (x4 : Int32) (S : pm_S) : Option (Int32 × pm_S) :=
    F_Law_law_1958 cab N rec23 x0 x1 x2 x3 x4 S
set_option maxHeartbeats 4000000 in
set_option maxRecDepth 20000 in
theorem f_Law_law_377 (cab : pm_S → Nat → Int32 → Int32 → Int32 → Nat → Option (Int32 × pm_S)) (sp : pm_I → List Value → pm_S → pm_O → Prop) (hcab : ∀ S a p0 p1 p2 o r, cab S a p0 p1 p2 o = some r → sp mi_Law_cable [.ref a, .int p0, .int p1, .int p2, .ref o] S (some (.int r.1), r.2)) (d N : Nat) (rec23 : Int32 → pm_S → Option (Int32 × pm_S)) (x0 : Nat) (x1 : Nat) (x2 : Nat) (x3 : Nat) (x4 : Int32) (S : pm_S) (hrec23 : ∀ (y1 : Int32) (U : pm_S) (r : (Int32 × pm_S)), rec23 y1 U = some r → pmE pG (pm_rel pG sp (d + 10)) mi_Law_law 23 [some (.ref x0), some (.ref x1), some (.ref x2), some (.ref x3), some (.int y1), none, none] [] U (some (.int r.1), r.2)) (r : (Int32 × pm_S)) (h : F_Law_law_377 cab N rec23 x0 x1 x2 x3 x4 S = some r) : pmE pG (pm_rel pG sp (d + 10)) mi_Law_law 377 [some (.ref x0), some (.ref x1), some (.ref x2), some (.ref x3), some (.int x4), none, none] [] S (some (.int r.1), r.2) := by
  unfold F_Law_law_377 at h
  refine pE_jump 1 (pc' := 1958) (ls' := [some (.ref x0), some (.ref x1), some (.ref x2), some (.ref x3), some (.int x4), none, none]) (st' := []) (fun _ => rfl) ?_
  exact f_Law_law_1958 cab sp hcab d N rec23 x0 x1 x2 x3 x4 S hrec23 _ h
def F_Law_law_375 (cab : pm_S → Nat → Int32 → Int32 → Int32 → Nat → Option (Int32 × pm_S)) (N : Nat)   (S : pm_S) : Option (Int32 × pm_S) :=
    some (0, S)
set_option maxHeartbeats 4000000 in
set_option maxRecDepth 20000 in
theorem f_Law_law_375 (cab : pm_S → Nat → Int32 → Int32 → Int32 → Nat → Option (Int32 × pm_S)) (sp : pm_I → List Value → pm_S → pm_O → Prop) (hcab : ∀ S a p0 p1 p2 o r, cab S a p0 p1 p2 o = some r → sp mi_Law_cable [.ref a, .int p0, .int p1, .int p2, .ref o] S (some (.int r.1), r.2)) (d N : Nat)   (S : pm_S)  (r : (Int32 × pm_S)) (h : F_Law_law_375 cab N   S = some r) : pmE pG (pm_rel pG sp (d + 10)) mi_Law_law 375 [none, none, none, none, none, none, none] [] S (some (.int r.1), r.2) := by
  unfold F_Law_law_375 at h
  refine pE_jump 1 (pc' := 376) (ls' := [none, none, none, none, none, none, none]) (st' := [.int 0]) (fun _ => rfl) ?_
  cases h
  exact pE_ret rfl rfl rfl
def F_Law_law_358 (cab : pm_S → Nat → Int32 → Int32 → Int32 → Nat → Option (Int32 × pm_S)) (N : Nat)   (S : pm_S) : Option (Int32 × pm_S) :=
    some (0, S)
set_option maxHeartbeats 4000000 in
set_option maxRecDepth 20000 in
theorem f_Law_law_358 (cab : pm_S → Nat → Int32 → Int32 → Int32 → Nat → Option (Int32 × pm_S)) (sp : pm_I → List Value → pm_S → pm_O → Prop) (hcab : ∀ S a p0 p1 p2 o r, cab S a p0 p1 p2 o = some r → sp mi_Law_cable [.ref a, .int p0, .int p1, .int p2, .ref o] S (some (.int r.1), r.2)) (d N : Nat)   (S : pm_S)  (r : (Int32 × pm_S)) (h : F_Law_law_358 cab N   S = some r) : pmE pG (pm_rel pG sp (d + 10)) mi_Law_law 358 [none, none, none, none, none, none, none] [] S (some (.int r.1), r.2) := by
  unfold F_Law_law_358 at h
  refine pE_jump 1 (pc' := 359) (ls' := [none, none, none, none, none, none, none]) (st' := [.int 0]) (fun _ => rfl) ?_
  cases h
  exact pE_ret rfl rfl rfl
def F_Law_law_300 (cab : pm_S → Nat → Int32 → Int32 → Int32 → Nat → Option (Int32 × pm_S)) (N : Nat) (rec23 : Int32 → pm_S → Option (Int32 × pm_S)) (x0 : Nat) (x1 : Nat) (x2 : Nat) (x3 : Nat) (x4 : Int32) (S : pm_S) : Option (Int32 × pm_S) :=
    (aI [0, 6] S x0 (x4 + 1)).bind fun v366 =>
    (aI [0, 6] S x0 (x4 + 2)).bind fun v367 =>
    (aI [0, 6] S x0 (x4 + 3)).bind fun v368 =>
    (cab S x1 v366 v367 v368 x3).bind fun (v370, S369) =>
    (aI [0, 6] S369 x0 (x4 + 1)).bind fun v371 =>
    (aI [0, 6] S369 x0 (x4 + 2)).bind fun v372 =>
    (aI [0, 6] S369 x0 (x4 + 3)).bind fun v373 =>
    (F_M_cable N S369 x2 v371 v372 v373).bind fun (v375, S374) =>
    (F_M_thrown N S374 x2).bind fun (v377, S376) =>
    if v377 = v370 then
    (if v370 = 0 then
    ((aJ S376 x3 0).bind fun v378 =>
    if (lg_cmp v378 (Int32.toInt64 v375)) = 0 then
    F_Law_law_377 cab N rec23 x0 x1 x2 x3 x4 S376
    else
    F_Law_law_375 cab N S376)
    else
    F_Law_law_377 cab N rec23 x0 x1 x2 x3 x4 S376)
    else
    F_Law_law_358 cab N S376
set_option maxHeartbeats 4000000 in
set_option maxRecDepth 20000 in
theorem f_Law_law_300 (cab : pm_S → Nat → Int32 → Int32 → Int32 → Nat → Option (Int32 × pm_S)) (sp : pm_I → List Value → pm_S → pm_O → Prop) (hcab : ∀ S a p0 p1 p2 o r, cab S a p0 p1 p2 o = some r → sp mi_Law_cable [.ref a, .int p0, .int p1, .int p2, .ref o] S (some (.int r.1), r.2)) (d N : Nat) (rec23 : Int32 → pm_S → Option (Int32 × pm_S)) (x0 : Nat) (x1 : Nat) (x2 : Nat) (x3 : Nat) (x4 : Int32) (S : pm_S) (hrec23 : ∀ (y1 : Int32) (U : pm_S) (r : (Int32 × pm_S)), rec23 y1 U = some r → pmE pG (pm_rel pG sp (d + 10)) mi_Law_law 23 [some (.ref x0), some (.ref x1), some (.ref x2), some (.ref x3), some (.int y1), none, none] [] U (some (.int r.1), r.2)) (r : (Int32 × pm_S)) (h : F_Law_law_300 cab N rec23 x0 x1 x2 x3 x4 S = some r) : pmE pG (pm_rel pG sp (d + 10)) mi_Law_law 300 [some (.ref x0), some (.ref x1), some (.ref x2), some (.ref x3), some (.int x4), none, none] [] S (some (.int r.1), r.2) := by
  unfold F_Law_law_300 at h
  refine pE_jump 5 (pc' := 306) (ls' := [some (.ref x0), some (.ref x1), some (.ref x2), some (.ref x3), some (.int x4), none, none]) (st' := [.int (x4 + 1), .ref x0, .ref x1]) (fun _ => rfl) ?_
  obtain ⟨v366, hv366, h⟩ := obind h
  refine pE_aI rfl rfl hv366 ?_
  refine pE_jump 4 (pc' := 312) (ls' := [some (.ref x0), some (.ref x1), some (.ref x2), some (.ref x3), some (.int x4), none, none]) (st' := [.int (x4 + 2), .ref x0, .int v366, .ref x1]) (fun _ => rfl) ?_
  obtain ⟨v367, hv367, h⟩ := obind h
  refine pE_aI rfl rfl hv367 ?_
  refine pE_jump 4 (pc' := 318) (ls' := [some (.ref x0), some (.ref x1), some (.ref x2), some (.ref x3), some (.int x4), none, none]) (st' := [.int (x4 + 3), .ref x0, .int v367, .int v366, .ref x1]) (fun _ => rfl) ?_
  obtain ⟨v368, hv368, h⟩ := obind h
  refine pE_aI rfl rfl hv368 ?_
  refine pE_jump 1 (pc' := 320) (ls' := [some (.ref x0), some (.ref x1), some (.ref x2), some (.ref x3), some (.int x4), none, none]) (st' := [.ref x3, .int v368, .int v367, .int v366, .ref x1]) (fun _ => rfl) ?_
  obtain ⟨⟨v370, S369⟩, hv370, h⟩ := obind h
  try dsimp only at h
  refine pE_i8 (Bs := [.ref x1, .int v366, .int v367, .int v368, .ref x3]) (st := []) rfl rfl rfl (Nat.le_of_ble_eq_true rfl) (Nat.le_of_ble_eq_true rfl) (Or.inl (hcab _ _ _ _ _ _ _ hv370)) ?_
  refine pE_jump 6 (pc' := 331) (ls' := [some (.ref x0), some (.ref x1), some (.ref x2), some (.ref x3), some (.int x4), some (.int v370), none]) (st' := [.int (x4 + 1), .ref x0, .ref x2]) (fun _ => rfl) ?_
  obtain ⟨v371, hv371, h⟩ := obind h
  refine pE_aI rfl rfl hv371 ?_
  refine pE_jump 4 (pc' := 337) (ls' := [some (.ref x0), some (.ref x1), some (.ref x2), some (.ref x3), some (.int x4), some (.int v370), none]) (st' := [.int (x4 + 2), .ref x0, .int v371, .ref x2]) (fun _ => rfl) ?_
  obtain ⟨v372, hv372, h⟩ := obind h
  refine pE_aI rfl rfl hv372 ?_
  refine pE_jump 4 (pc' := 343) (ls' := [some (.ref x0), some (.ref x1), some (.ref x2), some (.ref x3), some (.int x4), some (.int v370), none]) (st' := [.int (x4 + 3), .ref x0, .int v372, .int v371, .ref x2]) (fun _ => rfl) ?_
  obtain ⟨v373, hv373, h⟩ := obind h
  refine pE_aI rfl rfl hv373 ?_
  obtain ⟨⟨v375, S374⟩, hv375, h⟩ := obind h
  try dsimp only at h
  refine pE_iv (Bs := [.int v371, .int v372, .int v373]) (st := []) 1 rfl (Or.inl ⟨rfl, rfl⟩) rfl rfl (Nat.le_of_ble_eq_true rfl) (Nat.le_of_ble_eq_true rfl) (g_M_cable hv375) (f_M_cable sp (d + 7) N S369 x2 v371 v372 v373 _ hv375) ?_
  refine pE_jump 2 (pc' := 350) (ls' := [some (.ref x0), some (.ref x1), some (.ref x2), some (.ref x3), some (.int x4), some (.int v370), some (.int v375)]) (st' := [.ref x2]) (fun _ => rfl) ?_
  obtain ⟨⟨v377, S376⟩, hv377, h⟩ := obind h
  try dsimp only at h
  refine pE_iv (Bs := []) (st := []) 1 rfl (Or.inl ⟨rfl, rfl⟩) rfl rfl (Nat.le_of_ble_eq_true rfl) (Nat.le_of_ble_eq_true rfl) (g_M_thrown hv377) (f_M_thrown sp (d + 9) N S374 x2 _ hv377) ?_
  refine pE_jump 1 (pc' := 355) (ls' := [some (.ref x0), some (.ref x1), some (.ref x2), some (.ref x3), some (.int x4), some (.int v370), some (.int v375)]) (st' := [.int v370, .int v377]) (fun _ => rfl) ?_
  refine pE_br (v377 = v370) rfl rfl (fun c381 => ?_) (fun c381 => ?_)
  · rw [if_pos c381] at h
    refine pE_jump 1 (pc' := 362) (ls' := [some (.ref x0), some (.ref x1), some (.ref x2), some (.ref x3), some (.int x4), some (.int v370), some (.int v375)]) (st' := [.int v370]) (fun _ => rfl) ?_
    refine pE_br (¬ v370 = 0) rfl rfl (fun c380 => ?_) (fun c380 => ?_)
    · rw [if_neg c380] at h
      refine pE_weak [some (.ref x0), some (.ref x1), some (.ref x2), some (.ref x3), some (.int x4), none, none] ⟨rfl, ⟨rfl, ⟨rfl, ⟨rfl, ⟨rfl, trivial⟩⟩⟩⟩⟩ ?_
      exact f_Law_law_377 cab sp hcab d N rec23 x0 x1 x2 x3 x4 S376 hrec23 _ h
    · have c380 := Decidable.not_not.mp c380
      rw [if_pos c380] at h
      refine pE_jump 2 (pc' := 367) (ls' := [some (.ref x0), some (.ref x1), some (.ref x2), some (.ref x3), some (.int x4), some (.int v370), some (.int v375)]) (st' := [.int 0, .ref x3]) (fun _ => rfl) ?_
      obtain ⟨v378, hv378, h⟩ := obind h
      refine pE_aJ rfl hv378 ?_
      refine pE_jump 3 (pc' := 372) (ls' := [some (.ref x0), some (.ref x1), some (.ref x2), some (.ref x3), some (.int x4), some (.int v370), some (.int v375)]) (st' := [.int (lg_cmp v378 (Int32.toInt64 v375))]) (fun _ => rfl) ?_
      refine pE_br ((lg_cmp v378 (Int32.toInt64 v375)) = 0) rfl rfl (fun c379 => ?_) (fun c379 => ?_)
      · rw [if_pos c379] at h
        refine pE_weak [some (.ref x0), some (.ref x1), some (.ref x2), some (.ref x3), some (.int x4), none, none] ⟨rfl, ⟨rfl, ⟨rfl, ⟨rfl, ⟨rfl, trivial⟩⟩⟩⟩⟩ ?_
        exact f_Law_law_377 cab sp hcab d N rec23 x0 x1 x2 x3 x4 S376 hrec23 _ h
      · rw [if_neg c379] at h
        refine pE_weak [none, none, none, none, none, none, none] trivial ?_
        exact f_Law_law_375 cab sp hcab d N S376 _ h
  · rw [if_neg c381] at h
    refine pE_weak [none, none, none, none, none, none, none] trivial ?_
    exact f_Law_law_358 cab sp hcab d N S376 _ h
def F_Law_law_298 (cab : pm_S → Nat → Int32 → Int32 → Int32 → Nat → Option (Int32 × pm_S)) (N : Nat)   (S : pm_S) : Option (Int32 × pm_S) :=
    some (0, S)
set_option maxHeartbeats 4000000 in
set_option maxRecDepth 20000 in
theorem f_Law_law_298 (cab : pm_S → Nat → Int32 → Int32 → Int32 → Nat → Option (Int32 × pm_S)) (sp : pm_I → List Value → pm_S → pm_O → Prop) (hcab : ∀ S a p0 p1 p2 o r, cab S a p0 p1 p2 o = some r → sp mi_Law_cable [.ref a, .int p0, .int p1, .int p2, .ref o] S (some (.int r.1), r.2)) (d N : Nat)   (S : pm_S)  (r : (Int32 × pm_S)) (h : F_Law_law_298 cab N   S = some r) : pmE pG (pm_rel pG sp (d + 10)) mi_Law_law 298 [none, none, none, none, none, none, none] [] S (some (.int r.1), r.2) := by
  unfold F_Law_law_298 at h
  refine pE_jump 1 (pc' := 299) (ls' := [none, none, none, none, none, none, none]) (st' := [.int 0]) (fun _ => rfl) ?_
  cases h
  exact pE_ret rfl rfl rfl
def F_Law_law_287 (cab : pm_S → Nat → Int32 → Int32 → Int32 → Nat → Option (Int32 × pm_S)) (N : Nat) (rec23 : Int32 → pm_S → Option (Int32 × pm_S)) (x0 : Nat) (x1 : Nat) (x2 : Nat) (x3 : Nat) (x4 : Int32) (S : pm_S) : Option (Int32 × pm_S) :=
    (F_BP_plan N S x1).bind fun (v383, S382) =>
    (F_M_plan N S382 x2).bind fun (v385, S384) =>
    if v383 = v385 then
    F_Law_law_1958 cab N rec23 x0 x1 x2 x3 x4 S384
    else
    F_Law_law_298 cab N S384
set_option maxHeartbeats 4000000 in
set_option maxRecDepth 20000 in
theorem f_Law_law_287 (cab : pm_S → Nat → Int32 → Int32 → Int32 → Nat → Option (Int32 × pm_S)) (sp : pm_I → List Value → pm_S → pm_O → Prop) (hcab : ∀ S a p0 p1 p2 o r, cab S a p0 p1 p2 o = some r → sp mi_Law_cable [.ref a, .int p0, .int p1, .int p2, .ref o] S (some (.int r.1), r.2)) (d N : Nat) (rec23 : Int32 → pm_S → Option (Int32 × pm_S)) (x0 : Nat) (x1 : Nat) (x2 : Nat) (x3 : Nat) (x4 : Int32) (S : pm_S) (hrec23 : ∀ (y1 : Int32) (U : pm_S) (r : (Int32 × pm_S)), rec23 y1 U = some r → pmE pG (pm_rel pG sp (d + 10)) mi_Law_law 23 [some (.ref x0), some (.ref x1), some (.ref x2), some (.ref x3), some (.int y1), none, none] [] U (some (.int r.1), r.2)) (r : (Int32 × pm_S)) (h : F_Law_law_287 cab N rec23 x0 x1 x2 x3 x4 S = some r) : pmE pG (pm_rel pG sp (d + 10)) mi_Law_law 287 [some (.ref x0), some (.ref x1), some (.ref x2), some (.ref x3), some (.int x4), none, none] [] S (some (.int r.1), r.2) := by
  unfold F_Law_law_287 at h
  refine pE_jump 1 (pc' := 288) (ls' := [some (.ref x0), some (.ref x1), some (.ref x2), some (.ref x3), some (.int x4), none, none]) (st' := [.ref x1]) (fun _ => rfl) ?_
  obtain ⟨⟨v383, S382⟩, hv383, h⟩ := obind h
  try dsimp only at h
  refine pE_iv (Bs := []) (st := []) 1 rfl (Or.inl ⟨rfl, rfl⟩) rfl rfl (Nat.le_of_ble_eq_true rfl) (Nat.le_of_ble_eq_true rfl) (g_BP_plan hv383) (f_BP_plan sp (d + 2) N S x1 _ hv383) ?_
  refine pE_jump 1 (pc' := 292) (ls' := [some (.ref x0), some (.ref x1), some (.ref x2), some (.ref x3), some (.int x4), none, none]) (st' := [.ref x2, .int v383]) (fun _ => rfl) ?_
  obtain ⟨⟨v385, S384⟩, hv385, h⟩ := obind h
  try dsimp only at h
  refine pE_iv (Bs := []) (st := [.int v383]) 1 rfl (Or.inl ⟨rfl, rfl⟩) rfl rfl (Nat.le_of_ble_eq_true rfl) (Nat.le_of_ble_eq_true rfl) (g_M_plan hv385) (f_M_plan sp (d + 4) N S382 x2 _ hv385) ?_
  refine pE_br (v383 = v385) rfl rfl (fun c386 => ?_) (fun c386 => ?_)
  · rw [if_pos c386] at h
    exact f_Law_law_1958 cab sp hcab d N rec23 x0 x1 x2 x3 x4 S384 hrec23 _ h
  · rw [if_neg c386] at h
    refine pE_weak [none, none, none, none, none, none, none] trivial ?_
    exact f_Law_law_298 cab sp hcab d N S384 _ h
def F_Law_law_285 (cab : pm_S → Nat → Int32 → Int32 → Int32 → Nat → Option (Int32 × pm_S)) (N : Nat)   (S : pm_S) : Option (Int32 × pm_S) :=
    some (0, S)
set_option maxHeartbeats 4000000 in
set_option maxRecDepth 20000 in
theorem f_Law_law_285 (cab : pm_S → Nat → Int32 → Int32 → Int32 → Nat → Option (Int32 × pm_S)) (sp : pm_I → List Value → pm_S → pm_O → Prop) (hcab : ∀ S a p0 p1 p2 o r, cab S a p0 p1 p2 o = some r → sp mi_Law_cable [.ref a, .int p0, .int p1, .int p2, .ref o] S (some (.int r.1), r.2)) (d N : Nat)   (S : pm_S)  (r : (Int32 × pm_S)) (h : F_Law_law_285 cab N   S = some r) : pmE pG (pm_rel pG sp (d + 10)) mi_Law_law 285 [none, none, none, none, none, none, none] [] S (some (.int r.1), r.2) := by
  unfold F_Law_law_285 at h
  refine pE_jump 1 (pc' := 286) (ls' := [none, none, none, none, none, none, none]) (st' := [.int 0]) (fun _ => rfl) ?_
  cases h
  exact pE_ret rfl rfl rfl
def F_Law_law_274 (cab : pm_S → Nat → Int32 → Int32 → Int32 → Nat → Option (Int32 × pm_S)) (N : Nat) (rec23 : Int32 → pm_S → Option (Int32 × pm_S)) (x0 : Nat) (x1 : Nat) (x2 : Nat) (x3 : Nat) (x4 : Int32) (S : pm_S) : Option (Int32 × pm_S) :=
    (F_BP_fault N S x1).bind fun (v388, S387) =>
    (F_M_fault N S387 x2).bind fun (v390, S389) =>
    if v388 = v390 then
    F_Law_law_1958 cab N rec23 x0 x1 x2 x3 x4 S389
    else
    F_Law_law_285 cab N S389
set_option maxHeartbeats 4000000 in
set_option maxRecDepth 20000 in
theorem f_Law_law_274 (cab : pm_S → Nat → Int32 → Int32 → Int32 → Nat → Option (Int32 × pm_S)) (sp : pm_I → List Value → pm_S → pm_O → Prop) (hcab : ∀ S a p0 p1 p2 o r, cab S a p0 p1 p2 o = some r → sp mi_Law_cable [.ref a, .int p0, .int p1, .int p2, .ref o] S (some (.int r.1), r.2)) (d N : Nat) (rec23 : Int32 → pm_S → Option (Int32 × pm_S)) (x0 : Nat) (x1 : Nat) (x2 : Nat) (x3 : Nat) (x4 : Int32) (S : pm_S) (hrec23 : ∀ (y1 : Int32) (U : pm_S) (r : (Int32 × pm_S)), rec23 y1 U = some r → pmE pG (pm_rel pG sp (d + 10)) mi_Law_law 23 [some (.ref x0), some (.ref x1), some (.ref x2), some (.ref x3), some (.int y1), none, none] [] U (some (.int r.1), r.2)) (r : (Int32 × pm_S)) (h : F_Law_law_274 cab N rec23 x0 x1 x2 x3 x4 S = some r) : pmE pG (pm_rel pG sp (d + 10)) mi_Law_law 274 [some (.ref x0), some (.ref x1), some (.ref x2), some (.ref x3), some (.int x4), none, none] [] S (some (.int r.1), r.2) := by
  unfold F_Law_law_274 at h
  refine pE_jump 1 (pc' := 275) (ls' := [some (.ref x0), some (.ref x1), some (.ref x2), some (.ref x3), some (.int x4), none, none]) (st' := [.ref x1]) (fun _ => rfl) ?_
  obtain ⟨⟨v388, S387⟩, hv388, h⟩ := obind h
  try dsimp only at h
  refine pE_iv (Bs := []) (st := []) 1 rfl (Or.inl ⟨rfl, rfl⟩) rfl rfl (Nat.le_of_ble_eq_true rfl) (Nat.le_of_ble_eq_true rfl) (g_BP_fault hv388) (f_BP_fault sp (d + 2) N S x1 _ hv388) ?_
  refine pE_jump 1 (pc' := 279) (ls' := [some (.ref x0), some (.ref x1), some (.ref x2), some (.ref x3), some (.int x4), none, none]) (st' := [.ref x2, .int v388]) (fun _ => rfl) ?_
  obtain ⟨⟨v390, S389⟩, hv390, h⟩ := obind h
  try dsimp only at h
  refine pE_iv (Bs := []) (st := [.int v388]) 1 rfl (Or.inl ⟨rfl, rfl⟩) rfl rfl (Nat.le_of_ble_eq_true rfl) (Nat.le_of_ble_eq_true rfl) (g_M_fault hv390) (f_M_fault sp (d + 4) N S387 x2 _ hv390) ?_
  refine pE_br (v388 = v390) rfl rfl (fun c391 => ?_) (fun c391 => ?_)
  · rw [if_pos c391] at h
    exact f_Law_law_1958 cab sp hcab d N rec23 x0 x1 x2 x3 x4 S389 hrec23 _ h
  · rw [if_neg c391] at h
    refine pE_weak [none, none, none, none, none, none, none] trivial ?_
    exact f_Law_law_285 cab sp hcab d N S389 _ h
def F_Law_law_272 (cab : pm_S → Nat → Int32 → Int32 → Int32 → Nat → Option (Int32 × pm_S)) (N : Nat)   (S : pm_S) : Option (Int32 × pm_S) :=
    some (0, S)
set_option maxHeartbeats 4000000 in
set_option maxRecDepth 20000 in
theorem f_Law_law_272 (cab : pm_S → Nat → Int32 → Int32 → Int32 → Nat → Option (Int32 × pm_S)) (sp : pm_I → List Value → pm_S → pm_O → Prop) (hcab : ∀ S a p0 p1 p2 o r, cab S a p0 p1 p2 o = some r → sp mi_Law_cable [.ref a, .int p0, .int p1, .int p2, .ref o] S (some (.int r.1), r.2)) (d N : Nat)   (S : pm_S)  (r : (Int32 × pm_S)) (h : F_Law_law_272 cab N   S = some r) : pmE pG (pm_rel pG sp (d + 10)) mi_Law_law 272 [none, none, none, none, none, none, none] [] S (some (.int r.1), r.2) := by
  unfold F_Law_law_272 at h
  refine pE_jump 1 (pc' := 273) (ls' := [none, none, none, none, none, none, none]) (st' := [.int 0]) (fun _ => rfl) ?_
  cases h
  exact pE_ret rfl rfl rfl
def F_Law_law_249 (cab : pm_S → Nat → Int32 → Int32 → Int32 → Nat → Option (Int32 × pm_S)) (N : Nat) (rec23 : Int32 → pm_S → Option (Int32 × pm_S)) (x0 : Nat) (x1 : Nat) (x2 : Nat) (x3 : Nat) (x4 : Int32) (S : pm_S) : Option (Int32 × pm_S) :=
    (aI [0, 6] S x0 (x4 + 1)).bind fun v392 =>
    (F_BP_end N S x1 v392).bind fun (v394, S393) =>
    (aI [0, 6] S393 x0 (x4 + 1)).bind fun v395 =>
    (F_M_end N S393 x2 v395).bind fun (v397, S396) =>
    if v394 = v397 then
    F_Law_law_1958 cab N rec23 x0 x1 x2 x3 x4 S396
    else
    F_Law_law_272 cab N S396
set_option maxHeartbeats 4000000 in
set_option maxRecDepth 20000 in
theorem f_Law_law_249 (cab : pm_S → Nat → Int32 → Int32 → Int32 → Nat → Option (Int32 × pm_S)) (sp : pm_I → List Value → pm_S → pm_O → Prop) (hcab : ∀ S a p0 p1 p2 o r, cab S a p0 p1 p2 o = some r → sp mi_Law_cable [.ref a, .int p0, .int p1, .int p2, .ref o] S (some (.int r.1), r.2)) (d N : Nat) (rec23 : Int32 → pm_S → Option (Int32 × pm_S)) (x0 : Nat) (x1 : Nat) (x2 : Nat) (x3 : Nat) (x4 : Int32) (S : pm_S) (hrec23 : ∀ (y1 : Int32) (U : pm_S) (r : (Int32 × pm_S)), rec23 y1 U = some r → pmE pG (pm_rel pG sp (d + 10)) mi_Law_law 23 [some (.ref x0), some (.ref x1), some (.ref x2), some (.ref x3), some (.int y1), none, none] [] U (some (.int r.1), r.2)) (r : (Int32 × pm_S)) (h : F_Law_law_249 cab N rec23 x0 x1 x2 x3 x4 S = some r) : pmE pG (pm_rel pG sp (d + 10)) mi_Law_law 249 [some (.ref x0), some (.ref x1), some (.ref x2), some (.ref x3), some (.int x4), none, none] [] S (some (.int r.1), r.2) := by
  unfold F_Law_law_249 at h
  refine pE_jump 5 (pc' := 255) (ls' := [some (.ref x0), some (.ref x1), some (.ref x2), some (.ref x3), some (.int x4), none, none]) (st' := [.int (x4 + 1), .ref x0, .ref x1]) (fun _ => rfl) ?_
  obtain ⟨v392, hv392, h⟩ := obind h
  refine pE_aI rfl rfl hv392 ?_
  obtain ⟨⟨v394, S393⟩, hv394, h⟩ := obind h
  try dsimp only at h
  refine pE_iv (Bs := [.int v392]) (st := []) 1 rfl (Or.inl ⟨rfl, rfl⟩) rfl rfl (Nat.le_of_ble_eq_true rfl) (Nat.le_of_ble_eq_true rfl) (g_BP_end hv394) (f_BP_end sp (d + 8) N S x1 v392 _ hv394) ?_
  refine pE_jump 5 (pc' := 265) (ls' := [some (.ref x0), some (.ref x1), some (.ref x2), some (.ref x3), some (.int x4), none, none]) (st' := [.int (x4 + 1), .ref x0, .ref x2, .int v394]) (fun _ => rfl) ?_
  obtain ⟨v395, hv395, h⟩ := obind h
  refine pE_aI rfl rfl hv395 ?_
  obtain ⟨⟨v397, S396⟩, hv397, h⟩ := obind h
  try dsimp only at h
  refine pE_iv (Bs := [.int v395]) (st := [.int v394]) 1 rfl (Or.inl ⟨rfl, rfl⟩) rfl rfl (Nat.le_of_ble_eq_true rfl) (Nat.le_of_ble_eq_true rfl) (g_M_end hv397) (f_M_end sp (d + 9) N S393 x2 v395 _ hv397) ?_
  refine pE_br (v394 = v397) rfl rfl (fun c398 => ?_) (fun c398 => ?_)
  · rw [if_pos c398] at h
    exact f_Law_law_1958 cab sp hcab d N rec23 x0 x1 x2 x3 x4 S396 hrec23 _ h
  · rw [if_neg c398] at h
    refine pE_weak [none, none, none, none, none, none, none] trivial ?_
    exact f_Law_law_272 cab sp hcab d N S396 _ h
def F_Law_law_247 (cab : pm_S → Nat → Int32 → Int32 → Int32 → Nat → Option (Int32 × pm_S)) (N : Nat)   (S : pm_S) : Option (Int32 × pm_S) :=
    some (0, S)
set_option maxHeartbeats 4000000 in
set_option maxRecDepth 20000 in
theorem f_Law_law_247 (cab : pm_S → Nat → Int32 → Int32 → Int32 → Nat → Option (Int32 × pm_S)) (sp : pm_I → List Value → pm_S → pm_O → Prop) (hcab : ∀ S a p0 p1 p2 o r, cab S a p0 p1 p2 o = some r → sp mi_Law_cable [.ref a, .int p0, .int p1, .int p2, .ref o] S (some (.int r.1), r.2)) (d N : Nat)   (S : pm_S)  (r : (Int32 × pm_S)) (h : F_Law_law_247 cab N   S = some r) : pmE pG (pm_rel pG sp (d + 10)) mi_Law_law 247 [none, none, none, none, none, none, none] [] S (some (.int r.1), r.2) := by
  unfold F_Law_law_247 at h
  refine pE_jump 1 (pc' := 248) (ls' := [none, none, none, none, none, none, none]) (st' := [.int 0]) (fun _ => rfl) ?_
  cases h
  exact pE_ret rfl rfl rfl
def F_Law_law_176 (cab : pm_S → Nat → Int32 → Int32 → Int32 → Nat → Option (Int32 × pm_S)) (N : Nat) (rec23 : Int32 → pm_S → Option (Int32 × pm_S)) (x0 : Nat) (x1 : Nat) (x2 : Nat) (x3 : Nat) (x4 : Int32) (S : pm_S) : Option (Int32 × pm_S) :=
    (aI [0, 6] S x0 (x4 + 1)).bind fun v399 =>
    (aI [0, 6] S x0 (x4 + 2)).bind fun v400 =>
    (aI [0, 6] S x0 (x4 + 3)).bind fun v401 =>
    (aI [0, 6] S x0 (x4 + 4)).bind fun v402 =>
    (aI [0, 6] S x0 (x4 + 5)).bind fun v403 =>
    (F_BP_feed N S x1 v399 v400 v401 v402 v403).bind fun (v405, S404) =>
    (aI [0, 6] S404 x0 (x4 + 1)).bind fun v406 =>
    (aI [0, 6] S404 x0 (x4 + 2)).bind fun v407 =>
    (aI [0, 6] S404 x0 (x4 + 3)).bind fun v408 =>
    (aI [0, 6] S404 x0 (x4 + 4)).bind fun v409 =>
    (aI [0, 6] S404 x0 (x4 + 5)).bind fun v410 =>
    (F_M_feed N S404 x2 v406 v407 v408 v409 v410).bind fun (v412, S411) =>
    if v405 = v412 then
    F_Law_law_1958 cab N rec23 x0 x1 x2 x3 x4 S411
    else
    F_Law_law_247 cab N S411
set_option maxHeartbeats 4000000 in
set_option maxRecDepth 20000 in
theorem f_Law_law_176 (cab : pm_S → Nat → Int32 → Int32 → Int32 → Nat → Option (Int32 × pm_S)) (sp : pm_I → List Value → pm_S → pm_O → Prop) (hcab : ∀ S a p0 p1 p2 o r, cab S a p0 p1 p2 o = some r → sp mi_Law_cable [.ref a, .int p0, .int p1, .int p2, .ref o] S (some (.int r.1), r.2)) (d N : Nat) (rec23 : Int32 → pm_S → Option (Int32 × pm_S)) (x0 : Nat) (x1 : Nat) (x2 : Nat) (x3 : Nat) (x4 : Int32) (S : pm_S) (hrec23 : ∀ (y1 : Int32) (U : pm_S) (r : (Int32 × pm_S)), rec23 y1 U = some r → pmE pG (pm_rel pG sp (d + 10)) mi_Law_law 23 [some (.ref x0), some (.ref x1), some (.ref x2), some (.ref x3), some (.int y1), none, none] [] U (some (.int r.1), r.2)) (r : (Int32 × pm_S)) (h : F_Law_law_176 cab N rec23 x0 x1 x2 x3 x4 S = some r) : pmE pG (pm_rel pG sp (d + 10)) mi_Law_law 176 [some (.ref x0), some (.ref x1), some (.ref x2), some (.ref x3), some (.int x4), none, none] [] S (some (.int r.1), r.2) := by
  unfold F_Law_law_176 at h
  refine pE_jump 5 (pc' := 182) (ls' := [some (.ref x0), some (.ref x1), some (.ref x2), some (.ref x3), some (.int x4), none, none]) (st' := [.int (x4 + 1), .ref x0, .ref x1]) (fun _ => rfl) ?_
  obtain ⟨v399, hv399, h⟩ := obind h
  refine pE_aI rfl rfl hv399 ?_
  refine pE_jump 4 (pc' := 188) (ls' := [some (.ref x0), some (.ref x1), some (.ref x2), some (.ref x3), some (.int x4), none, none]) (st' := [.int (x4 + 2), .ref x0, .int v399, .ref x1]) (fun _ => rfl) ?_
  obtain ⟨v400, hv400, h⟩ := obind h
  refine pE_aI rfl rfl hv400 ?_
  refine pE_jump 4 (pc' := 194) (ls' := [some (.ref x0), some (.ref x1), some (.ref x2), some (.ref x3), some (.int x4), none, none]) (st' := [.int (x4 + 3), .ref x0, .int v400, .int v399, .ref x1]) (fun _ => rfl) ?_
  obtain ⟨v401, hv401, h⟩ := obind h
  refine pE_aI rfl rfl hv401 ?_
  refine pE_jump 4 (pc' := 200) (ls' := [some (.ref x0), some (.ref x1), some (.ref x2), some (.ref x3), some (.int x4), none, none]) (st' := [.int (x4 + 4), .ref x0, .int v401, .int v400, .int v399, .ref x1]) (fun _ => rfl) ?_
  obtain ⟨v402, hv402, h⟩ := obind h
  refine pE_aI rfl rfl hv402 ?_
  refine pE_jump 4 (pc' := 206) (ls' := [some (.ref x0), some (.ref x1), some (.ref x2), some (.ref x3), some (.int x4), none, none]) (st' := [.int (x4 + 5), .ref x0, .int v402, .int v401, .int v400, .int v399, .ref x1]) (fun _ => rfl) ?_
  obtain ⟨v403, hv403, h⟩ := obind h
  refine pE_aI rfl rfl hv403 ?_
  obtain ⟨⟨v405, S404⟩, hv405, h⟩ := obind h
  try dsimp only at h
  refine pE_iv (Bs := [.int v399, .int v400, .int v401, .int v402, .int v403]) (st := []) 1 rfl (Or.inl ⟨rfl, rfl⟩) rfl rfl (Nat.le_of_ble_eq_true rfl) (Nat.le_of_ble_eq_true rfl) (g_BP_feed hv405) (f_BP_feed sp (d + 7) N S x1 v399 v400 v401 v402 v403 _ hv405) ?_
  refine pE_jump 5 (pc' := 216) (ls' := [some (.ref x0), some (.ref x1), some (.ref x2), some (.ref x3), some (.int x4), none, none]) (st' := [.int (x4 + 1), .ref x0, .ref x2, .int v405]) (fun _ => rfl) ?_
  obtain ⟨v406, hv406, h⟩ := obind h
  refine pE_aI rfl rfl hv406 ?_
  refine pE_jump 4 (pc' := 222) (ls' := [some (.ref x0), some (.ref x1), some (.ref x2), some (.ref x3), some (.int x4), none, none]) (st' := [.int (x4 + 2), .ref x0, .int v406, .ref x2, .int v405]) (fun _ => rfl) ?_
  obtain ⟨v407, hv407, h⟩ := obind h
  refine pE_aI rfl rfl hv407 ?_
  refine pE_jump 4 (pc' := 228) (ls' := [some (.ref x0), some (.ref x1), some (.ref x2), some (.ref x3), some (.int x4), none, none]) (st' := [.int (x4 + 3), .ref x0, .int v407, .int v406, .ref x2, .int v405]) (fun _ => rfl) ?_
  obtain ⟨v408, hv408, h⟩ := obind h
  refine pE_aI rfl rfl hv408 ?_
  refine pE_jump 4 (pc' := 234) (ls' := [some (.ref x0), some (.ref x1), some (.ref x2), some (.ref x3), some (.int x4), none, none]) (st' := [.int (x4 + 4), .ref x0, .int v408, .int v407, .int v406, .ref x2, .int v405]) (fun _ => rfl) ?_
  obtain ⟨v409, hv409, h⟩ := obind h
  refine pE_aI rfl rfl hv409 ?_
  refine pE_jump 4 (pc' := 240) (ls' := [some (.ref x0), some (.ref x1), some (.ref x2), some (.ref x3), some (.int x4), none, none]) (st' := [.int (x4 + 5), .ref x0, .int v409, .int v408, .int v407, .int v406, .ref x2, .int v405]) (fun _ => rfl) ?_
  obtain ⟨v410, hv410, h⟩ := obind h
  refine pE_aI rfl rfl hv410 ?_
  obtain ⟨⟨v412, S411⟩, hv412, h⟩ := obind h
  try dsimp only at h
  refine pE_iv (Bs := [.int v406, .int v407, .int v408, .int v409, .int v410]) (st := [.int v405]) 1 rfl (Or.inl ⟨rfl, rfl⟩) rfl rfl (Nat.le_of_ble_eq_true rfl) (Nat.le_of_ble_eq_true rfl) (g_M_feed hv412) (f_M_feed sp (d + 8) N S404 x2 v406 v407 v408 v409 v410 _ hv412) ?_
  refine pE_br (v405 = v412) rfl rfl (fun c413 => ?_) (fun c413 => ?_)
  · rw [if_pos c413] at h
    exact f_Law_law_1958 cab sp hcab d N rec23 x0 x1 x2 x3 x4 S411 hrec23 _ h
  · rw [if_neg c413] at h
    refine pE_weak [none, none, none, none, none, none, none] trivial ?_
    exact f_Law_law_247 cab sp hcab d N S411 _ h
def B_Law_law_23 (cab : pm_S → Nat → Int32 → Int32 → Int32 → Nat → Option (Int32 × pm_S)) (N : Nat)  (rec23 : Int32 → pm_S → Option (Int32 × pm_S)) (x0 : Nat) (x1 : Nat) (x2 : Nat) (x3 : Nat) (x4 : Int32) (S : pm_S) : Option (Int32 × pm_S) :=
    (aNS S x0).bind fun v9 =>
    if (v9 - 9) < x4 then
    F_Law_law_1964 cab N S
    else
    ((aI [0, 6] S x0 x4).bind fun v10 =>
    if (v10 &&& 31) = 0 then
    F_Law_law_176 cab N rec23 x0 x1 x2 x3 x4 S
    else
    (if (v10 &&& 31) = 1 then
    F_Law_law_249 cab N rec23 x0 x1 x2 x3 x4 S
    else
    (if (v10 &&& 31) = 2 then
    F_Law_law_274 cab N rec23 x0 x1 x2 x3 x4 S
    else
    (if (v10 &&& 31) = 3 then
    F_Law_law_287 cab N rec23 x0 x1 x2 x3 x4 S
    else
    (if (v10 &&& 31) = 4 then
    F_Law_law_300 cab N rec23 x0 x1 x2 x3 x4 S
    else
    (if (v10 &&& 31) = 5 then
    F_Law_law_380 cab N rec23 x0 x1 x2 x3 x4 S
    else
    (if (v10 &&& 31) = 6 then
    F_Law_law_429 cab N rec23 x0 x1 x2 x3 x4 S
    else
    (if (v10 &&& 31) = 7 then
    F_Law_law_466 cab N rec23 x0 x1 x2 x3 x4 S
    else
    (if (v10 &&& 31) = 8 then
    F_Law_law_553 cab N rec23 x0 x1 x2 x3 x4 S
    else
    (if (v10 &&& 31) = 9 then
    F_Law_law_640 cab N rec23 x0 x1 x2 x3 x4 S
    else
    (if (v10 &&& 31) = 10 then
    F_Law_law_665 cab N rec23 x0 x1 x2 x3 x4 S
    else
    (if (v10 &&& 31) = 11 then
    F_Law_law_796 cab N rec23 x0 x1 x2 x3 x4 S
    else
    (if (v10 &&& 31) = 12 then
    F_Law_law_899 cab N rec23 x0 x1 x2 x3 x4 S
    else
    (if (v10 &&& 31) = 13 then
    F_Law_law_977 cab N rec23 x0 x1 x2 x3 x4 S
    else
    (if (v10 &&& 31) = 14 then
    F_Law_law_1042 cab N rec23 x0 x1 x2 x3 x4 S
    else
    (if (v10 &&& 31) = 15 then
    F_Law_law_1119 cab N rec23 x0 x1 x2 x3 x4 S
    else
    (if (v10 &&& 31) = 16 then
    F_Law_law_1168 cab N rec23 x0 x1 x2 x3 x4 S
    else
    (if (v10 &&& 31) = 17 then
    F_Law_law_1269 cab N rec23 x0 x1 x2 x3 x4 S
    else
    (if (v10 &&& 31) = 18 then
    F_Law_law_1346 cab N rec23 x0 x1 x2 x3 x4 S
    else
    (if (v10 &&& 31) = 19 then
    F_Law_law_1423 cab N rec23 x0 x1 x2 x3 x4 S
    else
    (if (v10 &&& 31) = 20 then
    F_Law_law_1448 cab N rec23 x0 x1 x2 x3 x4 S
    else
    (if (v10 &&& 31) = 21 then
    F_Law_law_1485 cab N rec23 x0 x1 x2 x3 x4 S
    else
    (if (v10 &&& 31) = 22 then
    F_Law_law_1510 cab N rec23 x0 x1 x2 x3 x4 S
    else
    (if (v10 &&& 31) = 23 then
    F_Law_law_1547 cab N rec23 x0 x1 x2 x3 x4 S
    else
    (if (v10 &&& 31) = 24 then
    F_Law_law_1624 cab N rec23 x0 x1 x2 x3 x4 S
    else
    (if (v10 &&& 31) = 25 then
    F_Law_law_1701 cab N rec23 x0 x1 x2 x3 x4 S
    else
    (if (v10 &&& 31) = 26 then
    F_Law_law_1750 cab N rec23 x0 x1 x2 x3 x4 S
    else
    (if (v10 &&& 31) = 27 then
    F_Law_law_1823 cab N rec23 x0 x1 x2 x3 x4 S
    else
    (if (v10 &&& 31) = 28 then
    F_Law_law_1872 cab N rec23 x0 x1 x2 x3 x4 S
    else
    (if (v10 &&& 31) = 29 then
    F_Law_law_1933 cab N rec23 x0 x1 x2 x3 x4 S
    else
    F_Law_law_1958 cab N rec23 x0 x1 x2 x3 x4 S))))))))))))))))))))))))))))))
def F_Law_law_23 (cab : pm_S → Nat → Int32 → Int32 → Int32 → Nat → Option (Int32 × pm_S)) (N : Nat)  (x0 : Nat) (x1 : Nat) (x2 : Nat) (x3 : Nat) : Nat → Int32 → pm_S → Option (Int32 × pm_S)
  | 0 => fun _ _ => none
  | n + 1 => fun x4 S => B_Law_law_23 cab N  (F_Law_law_23 cab N  x0 x1 x2 x3 n) x0 x1 x2 x3 x4 S
set_option maxHeartbeats 4000000 in
set_option maxRecDepth 20000 in
theorem f_Law_law_23 (cab : pm_S → Nat → Int32 → Int32 → Int32 → Nat → Option (Int32 × pm_S)) (sp : pm_I → List Value → pm_S → pm_O → Prop) (hcab : ∀ S a p0 p1 p2 o r, cab S a p0 p1 p2 o = some r → sp mi_Law_cable [.ref a, .int p0, .int p1, .int p2, .ref o] S (some (.int r.1), r.2)) (d N : Nat)  (x0 : Nat) (x1 : Nat) (x2 : Nat) (x3 : Nat)  : ∀ (n : Nat) (x4 : Int32) (S : pm_S) (r : (Int32 × pm_S)), F_Law_law_23 cab N  x0 x1 x2 x3 n x4 S = some r → pmE pG (pm_rel pG sp (d + 10)) mi_Law_law 23 [some (.ref x0), some (.ref x1), some (.ref x2), some (.ref x3), some (.int x4), none, none] [] S (some (.int r.1), r.2) := by
  intro n
  induction n with
  | zero =>
    intro x4 S r h
    cases h
  | succ n ih =>
    intro x4 S r h
    replace h : B_Law_law_23 cab N  (F_Law_law_23 cab N  x0 x1 x2 x3 n) x0 x1 x2 x3 x4 S = some r := h
    have hrec23 := ih
    generalize F_Law_law_23 cab N  x0 x1 x2 x3 n = rec23 at h hrec23
    unfold B_Law_law_23 at h
    refine pE_jump 2 (pc' := 26) (ls' := [some (.ref x0), some (.ref x1), some (.ref x2), some (.ref x3), some (.int x4), none, none]) (st' := [.ref x0, .int x4]) (fun _ => rfl) ?_
    obtain ⟨v9, hv9, h⟩ := obind h
    refine pE_aN rfl hv9 ?_
    refine pE_jump 2 (pc' := 30) (ls' := [some (.ref x0), some (.ref x1), some (.ref x2), some (.ref x3), some (.int x4), none, none]) (st' := [.int (v9 - 9), .int x4]) (fun _ => rfl) ?_
    refine pE_br ((v9 - 9) < x4) rfl rfl (fun c414 => ?_) (fun c414 => ?_)
    · rw [if_pos c414] at h
      refine pE_weak [none, none, none, none, none, none, none] trivial ?_
      exact f_Law_law_1964 cab sp hcab d N S _ h
    · rw [if_neg c414] at h
      refine pE_jump 2 (pc' := 36) (ls' := [some (.ref x0), some (.ref x1), some (.ref x2), some (.ref x3), some (.int x4), none, none]) (st' := [.int x4, .ref x0]) (fun _ => rfl) ?_
      obtain ⟨v10, hv10, h⟩ := obind h
      refine pE_aI rfl rfl hv10 ?_
      refine pE_jump 2 (pc' := 40) (ls' := [some (.ref x0), some (.ref x1), some (.ref x2), some (.ref x3), some (.int x4), none, none]) (st' := [.int (v10 &&& 31)]) (fun _ => rfl) ?_
      by_cases c11 : (v10 &&& 31) = 0
      · rw [if_pos c11] at h
        refine pE_nx (pc' := 176) (ls' := [some (.ref x0), some (.ref x1), some (.ref x2), some (.ref x3), some (.int x4), none, none]) (st' := []) (S' := S) rfl (by rw [c11]; rfl) ?_
        exact f_Law_law_176 cab sp hcab d N rec23 x0 x1 x2 x3 x4 S hrec23 _ h
      · rw [if_neg c11] at h
        by_cases c12 : (v10 &&& 31) = 1
        · rw [if_pos c12] at h
          refine pE_nx (pc' := 249) (ls' := [some (.ref x0), some (.ref x1), some (.ref x2), some (.ref x3), some (.int x4), none, none]) (st' := []) (S' := S) rfl (by rw [c12]; rfl) ?_
          exact f_Law_law_249 cab sp hcab d N rec23 x0 x1 x2 x3 x4 S hrec23 _ h
        · rw [if_neg c12] at h
          by_cases c13 : (v10 &&& 31) = 2
          · rw [if_pos c13] at h
            refine pE_nx (pc' := 274) (ls' := [some (.ref x0), some (.ref x1), some (.ref x2), some (.ref x3), some (.int x4), none, none]) (st' := []) (S' := S) rfl (by rw [c13]; rfl) ?_
            exact f_Law_law_274 cab sp hcab d N rec23 x0 x1 x2 x3 x4 S hrec23 _ h
          · rw [if_neg c13] at h
            by_cases c14 : (v10 &&& 31) = 3
            · rw [if_pos c14] at h
              refine pE_nx (pc' := 287) (ls' := [some (.ref x0), some (.ref x1), some (.ref x2), some (.ref x3), some (.int x4), none, none]) (st' := []) (S' := S) rfl (by rw [c14]; rfl) ?_
              exact f_Law_law_287 cab sp hcab d N rec23 x0 x1 x2 x3 x4 S hrec23 _ h
            · rw [if_neg c14] at h
              by_cases c15 : (v10 &&& 31) = 4
              · rw [if_pos c15] at h
                refine pE_nx (pc' := 300) (ls' := [some (.ref x0), some (.ref x1), some (.ref x2), some (.ref x3), some (.int x4), none, none]) (st' := []) (S' := S) rfl (by rw [c15]; rfl) ?_
                exact f_Law_law_300 cab sp hcab d N rec23 x0 x1 x2 x3 x4 S hrec23 _ h
              · rw [if_neg c15] at h
                by_cases c16 : (v10 &&& 31) = 5
                · rw [if_pos c16] at h
                  refine pE_nx (pc' := 380) (ls' := [some (.ref x0), some (.ref x1), some (.ref x2), some (.ref x3), some (.int x4), none, none]) (st' := []) (S' := S) rfl (by rw [c16]; rfl) ?_
                  exact f_Law_law_380 cab sp hcab d N rec23 x0 x1 x2 x3 x4 S hrec23 _ h
                · rw [if_neg c16] at h
                  by_cases c17 : (v10 &&& 31) = 6
                  · rw [if_pos c17] at h
                    refine pE_nx (pc' := 429) (ls' := [some (.ref x0), some (.ref x1), some (.ref x2), some (.ref x3), some (.int x4), none, none]) (st' := []) (S' := S) rfl (by rw [c17]; rfl) ?_
                    exact f_Law_law_429 cab sp hcab d N rec23 x0 x1 x2 x3 x4 S hrec23 _ h
                  · rw [if_neg c17] at h
                    by_cases c18 : (v10 &&& 31) = 7
                    · rw [if_pos c18] at h
                      refine pE_nx (pc' := 466) (ls' := [some (.ref x0), some (.ref x1), some (.ref x2), some (.ref x3), some (.int x4), none, none]) (st' := []) (S' := S) rfl (by rw [c18]; rfl) ?_
                      exact f_Law_law_466 cab sp hcab d N rec23 x0 x1 x2 x3 x4 S hrec23 _ h
                    · rw [if_neg c18] at h
                      by_cases c19 : (v10 &&& 31) = 8
                      · rw [if_pos c19] at h
                        refine pE_nx (pc' := 553) (ls' := [some (.ref x0), some (.ref x1), some (.ref x2), some (.ref x3), some (.int x4), none, none]) (st' := []) (S' := S) rfl (by rw [c19]; rfl) ?_
                        exact f_Law_law_553 cab sp hcab d N rec23 x0 x1 x2 x3 x4 S hrec23 _ h
                      · rw [if_neg c19] at h
                        by_cases c20 : (v10 &&& 31) = 9
                        · rw [if_pos c20] at h
                          refine pE_nx (pc' := 640) (ls' := [some (.ref x0), some (.ref x1), some (.ref x2), some (.ref x3), some (.int x4), none, none]) (st' := []) (S' := S) rfl (by rw [c20]; rfl) ?_
                          exact f_Law_law_640 cab sp hcab d N rec23 x0 x1 x2 x3 x4 S hrec23 _ h
                        · rw [if_neg c20] at h
                          by_cases c21 : (v10 &&& 31) = 10
                          · rw [if_pos c21] at h
                            refine pE_nx (pc' := 665) (ls' := [some (.ref x0), some (.ref x1), some (.ref x2), some (.ref x3), some (.int x4), none, none]) (st' := []) (S' := S) rfl (by rw [c21]; rfl) ?_
                            exact f_Law_law_665 cab sp hcab d N rec23 x0 x1 x2 x3 x4 S hrec23 _ h
                          · rw [if_neg c21] at h
                            by_cases c22 : (v10 &&& 31) = 11
                            · rw [if_pos c22] at h
                              refine pE_nx (pc' := 796) (ls' := [some (.ref x0), some (.ref x1), some (.ref x2), some (.ref x3), some (.int x4), none, none]) (st' := []) (S' := S) rfl (by rw [c22]; rfl) ?_
                              exact f_Law_law_796 cab sp hcab d N rec23 x0 x1 x2 x3 x4 S hrec23 _ h
                            · rw [if_neg c22] at h
                              by_cases c23 : (v10 &&& 31) = 12
                              · rw [if_pos c23] at h
                                refine pE_nx (pc' := 899) (ls' := [some (.ref x0), some (.ref x1), some (.ref x2), some (.ref x3), some (.int x4), none, none]) (st' := []) (S' := S) rfl (by rw [c23]; rfl) ?_
                                exact f_Law_law_899 cab sp hcab d N rec23 x0 x1 x2 x3 x4 S hrec23 _ h
                              · rw [if_neg c23] at h
                                by_cases c24 : (v10 &&& 31) = 13
                                · rw [if_pos c24] at h
                                  refine pE_nx (pc' := 977) (ls' := [some (.ref x0), some (.ref x1), some (.ref x2), some (.ref x3), some (.int x4), none, none]) (st' := []) (S' := S) rfl (by rw [c24]; rfl) ?_
                                  exact f_Law_law_977 cab sp hcab d N rec23 x0 x1 x2 x3 x4 S hrec23 _ h
                                · rw [if_neg c24] at h
                                  by_cases c25 : (v10 &&& 31) = 14
                                  · rw [if_pos c25] at h
                                    refine pE_nx (pc' := 1042) (ls' := [some (.ref x0), some (.ref x1), some (.ref x2), some (.ref x3), some (.int x4), none, none]) (st' := []) (S' := S) rfl (by rw [c25]; rfl) ?_
                                    exact f_Law_law_1042 cab sp hcab d N rec23 x0 x1 x2 x3 x4 S hrec23 _ h
                                  · rw [if_neg c25] at h
                                    by_cases c26 : (v10 &&& 31) = 15
                                    · rw [if_pos c26] at h
                                      refine pE_nx (pc' := 1119) (ls' := [some (.ref x0), some (.ref x1), some (.ref x2), some (.ref x3), some (.int x4), none, none]) (st' := []) (S' := S) rfl (by rw [c26]; rfl) ?_
                                      exact f_Law_law_1119 cab sp hcab d N rec23 x0 x1 x2 x3 x4 S hrec23 _ h
                                    · rw [if_neg c26] at h
                                      by_cases c27 : (v10 &&& 31) = 16
                                      · rw [if_pos c27] at h
                                        refine pE_nx (pc' := 1168) (ls' := [some (.ref x0), some (.ref x1), some (.ref x2), some (.ref x3), some (.int x4), none, none]) (st' := []) (S' := S) rfl (by rw [c27]; rfl) ?_
                                        exact f_Law_law_1168 cab sp hcab d N rec23 x0 x1 x2 x3 x4 S hrec23 _ h
                                      · rw [if_neg c27] at h
                                        by_cases c28 : (v10 &&& 31) = 17
                                        · rw [if_pos c28] at h
                                          refine pE_nx (pc' := 1269) (ls' := [some (.ref x0), some (.ref x1), some (.ref x2), some (.ref x3), some (.int x4), none, none]) (st' := []) (S' := S) rfl (by rw [c28]; rfl) ?_
                                          exact f_Law_law_1269 cab sp hcab d N rec23 x0 x1 x2 x3 x4 S hrec23 _ h
                                        · rw [if_neg c28] at h
                                          by_cases c29 : (v10 &&& 31) = 18
                                          · rw [if_pos c29] at h
                                            refine pE_nx (pc' := 1346) (ls' := [some (.ref x0), some (.ref x1), some (.ref x2), some (.ref x3), some (.int x4), none, none]) (st' := []) (S' := S) rfl (by rw [c29]; rfl) ?_
                                            exact f_Law_law_1346 cab sp hcab d N rec23 x0 x1 x2 x3 x4 S hrec23 _ h
                                          · rw [if_neg c29] at h
                                            by_cases c30 : (v10 &&& 31) = 19
                                            · rw [if_pos c30] at h
                                              refine pE_nx (pc' := 1423) (ls' := [some (.ref x0), some (.ref x1), some (.ref x2), some (.ref x3), some (.int x4), none, none]) (st' := []) (S' := S) rfl (by rw [c30]; rfl) ?_
                                              exact f_Law_law_1423 cab sp hcab d N rec23 x0 x1 x2 x3 x4 S hrec23 _ h
                                            · rw [if_neg c30] at h
                                              by_cases c31 : (v10 &&& 31) = 20
                                              · rw [if_pos c31] at h
                                                refine pE_nx (pc' := 1448) (ls' := [some (.ref x0), some (.ref x1), some (.ref x2), some (.ref x3), some (.int x4), none, none]) (st' := []) (S' := S) rfl (by rw [c31]; rfl) ?_
                                                exact f_Law_law_1448 cab sp hcab d N rec23 x0 x1 x2 x3 x4 S hrec23 _ h
                                              · rw [if_neg c31] at h
                                                by_cases c32 : (v10 &&& 31) = 21
                                                · rw [if_pos c32] at h
                                                  refine pE_nx (pc' := 1485) (ls' := [some (.ref x0), some (.ref x1), some (.ref x2), some (.ref x3), some (.int x4), none, none]) (st' := []) (S' := S) rfl (by rw [c32]; rfl) ?_
                                                  exact f_Law_law_1485 cab sp hcab d N rec23 x0 x1 x2 x3 x4 S hrec23 _ h
                                                · rw [if_neg c32] at h
                                                  by_cases c33 : (v10 &&& 31) = 22
                                                  · rw [if_pos c33] at h
                                                    refine pE_nx (pc' := 1510) (ls' := [some (.ref x0), some (.ref x1), some (.ref x2), some (.ref x3), some (.int x4), none, none]) (st' := []) (S' := S) rfl (by rw [c33]; rfl) ?_
                                                    exact f_Law_law_1510 cab sp hcab d N rec23 x0 x1 x2 x3 x4 S hrec23 _ h
                                                  · rw [if_neg c33] at h
                                                    by_cases c34 : (v10 &&& 31) = 23
                                                    · rw [if_pos c34] at h
                                                      refine pE_nx (pc' := 1547) (ls' := [some (.ref x0), some (.ref x1), some (.ref x2), some (.ref x3), some (.int x4), none, none]) (st' := []) (S' := S) rfl (by rw [c34]; rfl) ?_
                                                      exact f_Law_law_1547 cab sp hcab d N rec23 x0 x1 x2 x3 x4 S hrec23 _ h
                                                    · rw [if_neg c34] at h
                                                      by_cases c35 : (v10 &&& 31) = 24
                                                      · rw [if_pos c35] at h
                                                        refine pE_nx (pc' := 1624) (ls' := [some (.ref x0), some (.ref x1), some (.ref x2), some (.ref x3), some (.int x4), none, none]) (st' := []) (S' := S) rfl (by rw [c35]; rfl) ?_
                                                        exact f_Law_law_1624 cab sp hcab d N rec23 x0 x1 x2 x3 x4 S hrec23 _ h
                                                      · rw [if_neg c35] at h
                                                        by_cases c36 : (v10 &&& 31) = 25
                                                        · rw [if_pos c36] at h
                                                          refine pE_nx (pc' := 1701) (ls' := [some (.ref x0), some (.ref x1), some (.ref x2), some (.ref x3), some (.int x4), none, none]) (st' := []) (S' := S) rfl (by rw [c36]; rfl) ?_
                                                          exact f_Law_law_1701 cab sp hcab d N rec23 x0 x1 x2 x3 x4 S hrec23 _ h
                                                        · rw [if_neg c36] at h
                                                          by_cases c37 : (v10 &&& 31) = 26
                                                          · rw [if_pos c37] at h
                                                            refine pE_nx (pc' := 1750) (ls' := [some (.ref x0), some (.ref x1), some (.ref x2), some (.ref x3), some (.int x4), none, none]) (st' := []) (S' := S) rfl (by rw [c37]; rfl) ?_
                                                            exact f_Law_law_1750 cab sp hcab d N rec23 x0 x1 x2 x3 x4 S hrec23 _ h
                                                          · rw [if_neg c37] at h
                                                            by_cases c38 : (v10 &&& 31) = 27
                                                            · rw [if_pos c38] at h
                                                              refine pE_nx (pc' := 1823) (ls' := [some (.ref x0), some (.ref x1), some (.ref x2), some (.ref x3), some (.int x4), none, none]) (st' := []) (S' := S) rfl (by rw [c38]; rfl) ?_
                                                              exact f_Law_law_1823 cab sp hcab d N rec23 x0 x1 x2 x3 x4 S hrec23 _ h
                                                            · rw [if_neg c38] at h
                                                              by_cases c39 : (v10 &&& 31) = 28
                                                              · rw [if_pos c39] at h
                                                                refine pE_nx (pc' := 1872) (ls' := [some (.ref x0), some (.ref x1), some (.ref x2), some (.ref x3), some (.int x4), none, none]) (st' := []) (S' := S) rfl (by rw [c39]; rfl) ?_
                                                                exact f_Law_law_1872 cab sp hcab d N rec23 x0 x1 x2 x3 x4 S hrec23 _ h
                                                              · rw [if_neg c39] at h
                                                                by_cases c40 : (v10 &&& 31) = 29
                                                                · rw [if_pos c40] at h
                                                                  refine pE_nx (pc' := 1933) (ls' := [some (.ref x0), some (.ref x1), some (.ref x2), some (.ref x3), some (.int x4), none, none]) (st' := []) (S' := S) rfl (by rw [c40]; rfl) ?_
                                                                  exact f_Law_law_1933 cab sp hcab d N rec23 x0 x1 x2 x3 x4 S hrec23 _ h
                                                                · rw [if_neg c40] at h
                                                                  refine pE_swD (pc' := 1958) rfl (pm_swd29 c11 c12 c13 c14 c15 c16 c17 c18 c19 c20 c21 c22 c23 c24 c25 c26 c27 c28 c29 c30 c31 c32 c33 c34 c35 c36 c37 c38 c39 c40) (by decide) rfl ?_
                                                                  exact f_Law_law_1958 cab sp hcab d N rec23 x0 x1 x2 x3 x4 S hrec23 _ h
