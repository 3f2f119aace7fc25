def F_M_heard_52 (N : Nat)   (S : pm_S) : Option (Int32 × pm_S) :=
    some ((-1), S)
set_option maxHeartbeats 4000000 in
set_option maxRecDepth 20000 in
theorem f_M_heard_52 (sp : pm_I → List Value → pm_S → pm_O → Prop) (d N : Nat)   (S : pm_S)  (r : (Int32 × pm_S)) (h : F_M_heard_52 N   S = some r) : pmE pG (pm_rel pG sp (d + 5)) mi_M_heard 52 [none, none, none, none, none, none, none, none, none] [] S (some (.int r.1), r.2) := by
  unfold F_M_heard_52 at h
  refine pE_jump 1 (pc' := 53) (ls' := [none, none, none, none, none, none, none, none, none]) (st' := [.int (-1)]) (fun _ => rfl) ?_
  cases h
  exact pE_ret rfl rfl rfl
def F_M_heard (N : Nat) (S : pm_S) (a : Nat) (p0 : Int32) (p1 : Int32) (p2 : Int32) (p3 : Int32) (p4 : Int32) (p5 : Int32) (p6 : Int32) (p7 : Int32) : Option (Int32 × pm_S) :=
    if rcv S a 11 = true then
    ((wF S a 11 0 .int (.int 0)).bind fun S1 =>
    (F_M_isWorld N S1 a p0 p1).bind fun (v3, S2) =>
    if v3 = 0 then
    F_M_heard_52 N S2
    else
    ((F_M_isPair N S2 a p0 p3 p4).bind fun (v5, S4) =>
    if v5 = 0 then
    F_M_heard_52 N S4
    else
    ((F_M_isEnd N S4 p5).bind fun (v7, S6) =>
    if v7 = 0 then
    F_M_heard_52 N S6
    else
    ((F_M_isCable N S6 a p0 p6).bind fun (v9, S8) =>
    if v9 = 0 then
    F_M_heard_52 N S8
    else
    ((F_M_isEnd N S8 p7).bind fun (v11, S10) =>
    if v11 = 0 then
    F_M_heard_52 N S10
    else
    ((F_M_lay N S10 a p0 p1 p2).bind fun S12 =>
    (F_M_heardAt N S12 a p3 p4 p5 p6 p7).bind fun (v14, S13) =>
    some (v14, S13)))))))
    else none
theorem g_M_heard {N : Nat} {S : pm_S} {a : Nat} {p0 : Int32} {p1 : Int32} {p2 : Int32} {p3 : Int32} {p4 : Int32} {p5 : Int32} {p6 : Int32} {p7 : Int32} {r : (Int32 × pm_S)} (h : F_M_heard N S a p0 p1 p2 p3 p4 p5 p6 p7 = some r) : rcv S a 11 = true := by
  unfold F_M_heard at h
  by_cases c : rcv S a 11 = true
  · exact c
  · rw [if_neg c] at h; cases h
set_option maxHeartbeats 4000000 in
set_option maxRecDepth 20000 in
theorem f_M_heard (sp : pm_I → List Value → pm_S → pm_O → Prop) (d N : Nat) (S : pm_S) (a : Nat) (p0 : Int32) (p1 : Int32) (p2 : Int32) (p3 : Int32) (p4 : Int32) (p5 : Int32) (p6 : Int32) (p7 : Int32) (r : (Int32 × pm_S)) (h : F_M_heard N S a p0 p1 p2 p3 p4 p5 p6 p7 = some r) : pm_rel pG sp (d + 6) mi_M_heard [.ref a, .int p0, .int p1, .int p2, .int p3, .int p4, .int p5, .int p6, .int p7] S (some (.int r.1), r.2) := by
  have hg := g_M_heard h
  unfold F_M_heard at h
  rw [if_pos hg] at h
  refine pE_rel (d := d + 5) ?_
  show pmE pG _ mi_M_heard 0 [some (.ref a), some (.int p0), some (.int p1), some (.int p2), some (.int p3), some (.int p4), some (.int p5), some (.int p6), some (.int p7)] [] S _
  refine pE_jump 2 (pc' := 2) (ls' := [some (.ref a), some (.int p0), some (.int p1), some (.int p2), some (.int p3), some (.int p4), some (.int p5), some (.int p6), some (.int p7)]) (st' := [.int 0, .ref a]) (fun _ => rfl) ?_
  obtain ⟨S1, hS1, h⟩ := obind h
  refine pE_pf rfl rfl rfl hS1 ?_
  refine pE_jump 3 (pc' := 8) (ls' := [some (.ref a), some (.int p0), some (.int p1), some (.int p2), some (.int p3), some (.int p4), some (.int p5), some (.int p6), some (.int p7)]) (st' := [.int p1, .int p0, .ref a]) (fun _ => rfl) ?_
  obtain ⟨⟨v3, S2⟩, hv3, h⟩ := obind h
  try dsimp only at h
  refine pE_iv (Bs := [.int p0, .int p1]) (st := []) 1 rfl (Or.inl ⟨rfl, rfl⟩) rfl rfl (Nat.le_of_ble_eq_true rfl) (Nat.le_of_ble_eq_true rfl) (g_M_isWorld hv3) (f_M_isWorld sp (d + 3) N S1 a p0 p1 _ hv3) ?_
  refine pE_br (v3 = 0) rfl rfl (fun c19 => ?_) (fun c19 => ?_)
  · rw [if_pos c19] at h
    refine pE_weak [none, none, none, none, none, none, none, none, none] trivial ?_
    exact f_M_heard_52 sp d N S2 _ h
  · rw [if_neg c19] at h
    refine pE_jump 4 (pc' := 20) (ls' := [some (.ref a), some (.int p0), some (.int p1), some (.int p2), some (.int p3), some (.int p4), some (.int p5), some (.int p6), some (.int p7)]) (st' := [.int p4, .int p3, .int p0, .ref a]) (fun _ => rfl) ?_
    obtain ⟨⟨v5, S4⟩, hv5, h⟩ := obind h
    try dsimp only at h
    refine pE_iv (Bs := [.int p0, .int p3, .int p4]) (st := []) 1 rfl (Or.inl ⟨rfl, rfl⟩) rfl rfl (Nat.le_of_ble_eq_true rfl) (Nat.le_of_ble_eq_true rfl) (g_M_isPair hv5) (f_M_isPair sp (d + 2) N S2 a p0 p3 p4 _ hv5) ?_
    refine pE_br (v5 = 0) rfl rfl (fun c18 => ?_) (fun c18 => ?_)
    · rw [if_pos c18] at h
      refine pE_weak [none, none, none, none, none, none, none, none, none] trivial ?_
      exact f_M_heard_52 sp d N S4 _ h
    · rw [if_neg c18] at h
      refine pE_jump 1 (pc' := 28) (ls' := [some (.ref a), some (.int p0), some (.int p1), some (.int p2), some (.int p3), some (.int p4), some (.int p5), some (.int p6), some (.int p7)]) (st' := [.int p5]) (fun _ => rfl) ?_
      obtain ⟨⟨v7, S6⟩, hv7, h⟩ := obind h
      try dsimp only at h
      refine pE_is (Bs := [.int p5]) (st := []) rfl rfl rfl (Nat.le_of_ble_eq_true rfl) (Nat.le_of_ble_eq_true rfl) (f_M_isEnd sp (d + 3) N S4 p5 _ hv7) ?_
      refine pE_br (v7 = 0) rfl rfl (fun c17 => ?_) (fun c17 => ?_)
      · rw [if_pos c17] at h
        refine pE_weak [none, none, none, none, none, none, none, none, none] trivial ?_
        exact f_M_heard_52 sp d N S6 _ h
      · rw [if_neg c17] at h
        refine pE_jump 3 (pc' := 38) (ls' := [some (.ref a), some (.int p0), some (.int p1), some (.int p2), some (.int p3), some (.int p4), some (.int p5), some (.int p6), some (.int p7)]) (st' := [.int p6, .int p0, .ref a]) (fun _ => rfl) ?_
        obtain ⟨⟨v9, S8⟩, hv9, h⟩ := obind h
        try dsimp only at h
        refine pE_iv (Bs := [.int p0, .int p6]) (st := []) 1 rfl (Or.inl ⟨rfl, rfl⟩) rfl rfl (Nat.le_of_ble_eq_true rfl) (Nat.le_of_ble_eq_true rfl) (g_M_isCable hv9) (f_M_isCable sp (d + 3) N S6 a p0 p6 _ hv9) ?_
        refine pE_br (v9 = 0) rfl rfl (fun c16 => ?_) (fun c16 => ?_)
        · rw [if_pos c16] at h
          refine pE_weak [none, none, none, none, none, none, none, none, none] trivial ?_
          exact f_M_heard_52 sp d N S8 _ h
        · rw [if_neg c16] at h
          refine pE_jump 1 (pc' := 46) (ls' := [some (.ref a), some (.int p0), some (.int p1), some (.int p2), some (.int p3), some (.int p4), some (.int p5), some (.int p6), some (.int p7)]) (st' := [.int p7]) (fun _ => rfl) ?_
          obtain ⟨⟨v11, S10⟩, hv11, h⟩ := obind h
          try dsimp only at h
          refine pE_is (Bs := [.int p7]) (st := []) rfl rfl rfl (Nat.le_of_ble_eq_true rfl) (Nat.le_of_ble_eq_true rfl) (f_M_isEnd sp (d + 3) N S8 p7 _ hv11) ?_
          refine pE_br (¬ v11 = 0) rfl rfl (fun c15 => ?_) (fun c15 => ?_)
          · rw [if_neg c15] at h
            refine pE_jump 4 (pc' := 58) (ls' := [some (.ref a), some (.int p0), some (.int p1), some (.int p2), some (.int p3), some (.int p4), some (.int p5), some (.int p6), some (.int p7)]) (st' := [.int p2, .int p1, .int p0, .ref a]) (fun _ => rfl) ?_
            obtain ⟨S12, hS12, h⟩ := obind h
            refine pE_iv (Bs := [.int p0, .int p1, .int p2]) (st := []) 1 rfl (Or.inl ⟨rfl, rfl⟩) rfl rfl (Nat.le_of_ble_eq_true rfl) (Nat.le_of_ble_eq_true rfl) (g_M_lay hS12) (f_M_lay sp (d + 2) N S10 a p0 p1 p2 _ hS12) ?_
            refine pE_jump 6 (pc' := 72) (ls' := [some (.ref a), some (.int p0), some (.int p1), some (.int p2), some (.int p3), some (.int p4), some (.int p5), some (.int p6), some (.int p7)]) (st' := [.int p7, .int p6, .int p5, .int p4, .int p3, .ref a]) (fun _ => rfl) ?_
            obtain ⟨⟨v14, S13⟩, hv14, h⟩ := obind h
            try dsimp only at h
            refine pE_iv (Bs := [.int p3, .int p4, .int p5, .int p6, .int p7]) (st := []) 1 rfl (Or.inl ⟨rfl, rfl⟩) rfl rfl (Nat.le_of_ble_eq_true rfl) (Nat.le_of_ble_eq_true rfl) (g_M_heardAt hv14) (f_M_heardAt sp d N S12 a p3 p4 p5 p6 p7 _ hv14) ?_
            cases h
            exact pE_ret rfl rfl rfl
          · have c15 := Decidable.not_not.mp c15
            rw [if_pos c15] at h
            refine pE_weak [none, none, none, none, none, none, none, none, none] trivial ?_
            exact f_M_heard_52 sp d N S10 _ h
def F_M_firstTouch_186 (N : Nat)  (x4 : Int32) (S : pm_S) : Option (Int32 × pm_S) :=
    some (x4, S)
set_option maxHeartbeats 4000000 in
set_option maxRecDepth 20000 in
theorem f_M_firstTouch_186 (sp : pm_I → List Value → pm_S → pm_O → Prop) (d N : Nat)  (x4 : Int32) (S : pm_S)  (r : (Int32 × pm_S)) (h : F_M_firstTouch_186 N  x4 S = some r) : pmE pG (pm_rel pG sp (d + 2)) mi_M_firstTouch 186 [none, none, none, none, some (.int x4), none, none, none] [] S (some (.int r.1), r.2) := by
  unfold F_M_firstTouch_186 at h
  refine pE_jump 1 (pc' := 188) (ls' := [none, none, none, none, some (.int x4), none, none, none]) (st' := [.int x4]) (fun _ => rfl) ?_
  cases h
  exact pE_ret rfl rfl rfl
def F_M_firstTouch_180 (N : Nat) (rec27 : Int32 → Int32 → pm_S → Option (Int32 × pm_S)) (x0 : Nat) (x1 : Int32) (x2 : Int32) (x3 : Int32) (x4 : Int32) (x5 : Int32) (x6 : Int32) (S : pm_S) : Option (Int32 × pm_S) :=
    rec27 x4 (x6 + 1) S
set_option maxHeartbeats 4000000 in
set_option maxRecDepth 20000 in
theorem f_M_firstTouch_180 (sp : pm_I → List Value → pm_S → pm_O → Prop) (d N : Nat) (rec27 : Int32 → Int32 → pm_S → Option (Int32 × pm_S)) (x0 : Nat) (x1 : Int32) (x2 : Int32) (x3 : Int32) (x4 : Int32) (x5 : Int32) (x6 : Int32) (S : pm_S) (hrec27 : ∀ (y1 : Int32) (y2 : Int32) (U : pm_S) (r : (Int32 × pm_S)), rec27 y1 y2 U = some r → pmE pG (pm_rel pG sp (d + 2)) mi_M_firstTouch 27 [some (.ref x0), some (.int x1), some (.int x2), some (.int x3), some (.int y1), some (.int x5), some (.int y2), none] [] U (some (.int r.1), r.2)) (r : (Int32 × pm_S)) (h : F_M_firstTouch_180 N rec27 x0 x1 x2 x3 x4 x5 x6 S = some r) : pmE pG (pm_rel pG sp (d + 2)) mi_M_firstTouch 180 [some (.ref x0), some (.int x1), some (.int x2), some (.int x3), some (.int x4), some (.int x5), some (.int x6), none] [] S (some (.int r.1), r.2) := by
  unfold F_M_firstTouch_180 at h
  refine pE_jump 2 (pc' := 27) (ls' := [some (.ref x0), some (.int x1), some (.int x2), some (.int x3), some (.int x4), some (.int x5), some (.int (x6 + 1)), none]) (st' := []) (fun _ => rfl) ?_
  exact hrec27 x4 (x6 + 1) S _ h
def F_M_firstTouch_171 (N : Nat) (rec27 : Int32 → Int32 → pm_S → Option (Int32 × pm_S)) (x0 : Nat) (x1 : Int32) (x2 : Int32) (x3 : Int32) (x5 : Int32) (x6 : Int32) (x7 : Int32) (S : pm_S) : Option (Int32 × pm_S) :=
    (oR S x0 11 25).bind fun oq19 => match oq19 with
    | none => none
    | some q19 =>
    (aI [0, 6] S q19 x7).bind fun v20 =>
    F_M_firstTouch_180 N rec27 x0 x1 x2 x3 v20 x5 x6 S
set_option maxHeartbeats 4000000 in
set_option maxRecDepth 20000 in
theorem f_M_firstTouch_171 (sp : pm_I → List Value → pm_S → pm_O → Prop) (d N : Nat) (rec27 : Int32 → Int32 → pm_S → Option (Int32 × pm_S)) (x0 : Nat) (x1 : Int32) (x2 : Int32) (x3 : Int32) (x5 : Int32) (x6 : Int32) (x7 : Int32) (S : pm_S) (hrec27 : ∀ (y1 : Int32) (y2 : Int32) (U : pm_S) (r : (Int32 × pm_S)), rec27 y1 y2 U = some r → pmE pG (pm_rel pG sp (d + 2)) mi_M_firstTouch 27 [some (.ref x0), some (.int x1), some (.int x2), some (.int x3), some (.int y1), some (.int x5), some (.int y2), none] [] U (some (.int r.1), r.2)) (r : (Int32 × pm_S)) (h : F_M_firstTouch_171 N rec27 x0 x1 x2 x3 x5 x6 x7 S = some r) : pmE pG (pm_rel pG sp (d + 2)) mi_M_firstTouch 171 [some (.ref x0), some (.int x1), some (.int x2), some (.int x3), none, some (.int x5), some (.int x6), some (.int x7)] [] S (some (.int r.1), r.2) := by
  unfold F_M_firstTouch_171 at h
  refine pE_jump 1 (pc' := 172) (ls' := [some (.ref x0), some (.int x1), some (.int x2), some (.int x3), none, some (.int x5), some (.int x6), some (.int x7)]) (st' := [.ref x0]) (fun _ => rfl) ?_
  obtain ⟨oq19, hq19, h⟩ := obind h
  cases oq19 with
  | none => cases h
  | some q19 =>
    try dsimp only at h
    refine pE_gfS rfl rfl hq19 ?_
    refine pE_jump 1 (pc' := 177) (ls' := [some (.ref x0), some (.int x1), some (.int x2), some (.int x3), none, some (.int x5), some (.int x6), some (.int x7)]) (st' := [.int x7, .ref q19]) (fun _ => rfl) ?_
    obtain ⟨v20, hv20, h⟩ := obind h
    refine pE_aI rfl rfl hv20 ?_
    refine pE_jump 1 (pc' := 180) (ls' := [some (.ref x0), some (.int x1), some (.int x2), some (.int x3), some (.int v20), some (.int x5), some (.int x6), some (.int x7)]) (st' := []) (fun _ => rfl) ?_
    refine pE_weak [some (.ref x0), some (.int x1), some (.int x2), some (.int x3), some (.int v20), some (.int x5), some (.int x6), none] ⟨rfl, ⟨rfl, ⟨rfl, ⟨rfl, ⟨rfl, ⟨rfl, ⟨rfl, trivial⟩⟩⟩⟩⟩⟩⟩ ?_
    exact f_M_firstTouch_180 sp d N rec27 x0 x1 x2 x3 v20 x5 x6 S hrec27 _ h
def F_M_firstTouch_113 (N : Nat) (rec27 : Int32 → Int32 → pm_S → Option (Int32 × pm_S)) (x0 : Nat) (x1 : Int32) (x2 : Int32) (x3 : Int32) (x4 : Int32) (x5 : Int32) (x6 : Int32) (x7 : Int32) (S : pm_S) : Option (Int32 × pm_S) :=
    (oR S x0 11 25).bind fun oq15 => match oq15 with
    | none => none
    | some q15 =>
    (aI [0, 6] S q15 x7).bind fun v16 =>
    (F_M_breaksTo N S x0 x1 x2 v16).bind fun (v18, S17) =>
    if v18 = x5 then
    (if x4 = (-1) then
    F_M_firstTouch_171 N rec27 x0 x1 x2 x3 x5 x6 x7 S17
    else
    (if x3 = 0 then
    ((oR S17 x0 11 25).bind fun oq21 => match oq21 with
    | none => none
    | some q21 =>
    (aI [0, 6] S17 q21 x7).bind fun v22 =>
    if x4 ≤ v22 then
    F_M_firstTouch_180 N rec27 x0 x1 x2 x3 x4 x5 x6 S17
    else
    F_M_firstTouch_171 N rec27 x0 x1 x2 x3 x5 x6 x7 S17)
    else
    ((oR S17 x0 11 25).bind fun oq24 => match oq24 with
    | none => none
    | some q24 =>
    (aI [0, 6] S17 q24 x7).bind fun v25 =>
    if v25 ≤ x4 then
    F_M_firstTouch_180 N rec27 x0 x1 x2 x3 x4 x5 x6 S17
    else
    F_M_firstTouch_171 N rec27 x0 x1 x2 x3 x5 x6 x7 S17)))
    else
    F_M_firstTouch_180 N rec27 x0 x1 x2 x3 x4 x5 x6 S17
set_option maxHeartbeats 4000000 in
set_option maxRecDepth 20000 in
theorem f_M_firstTouch_113 (sp : pm_I → List Value → pm_S → pm_O → Prop) (d N : Nat) (rec27 : Int32 → Int32 → pm_S → Option (Int32 × pm_S)) (x0 : Nat) (x1 : Int32) (x2 : Int32) (x3 : Int32) (x4 : Int32) (x5 : Int32) (x6 : Int32) (x7 : Int32) (S : pm_S) (hrec27 : ∀ (y1 : Int32) (y2 : Int32) (U : pm_S) (r : (Int32 × pm_S)), rec27 y1 y2 U = some r → pmE pG (pm_rel pG sp (d + 2)) mi_M_firstTouch 27 [some (.ref x0), some (.int x1), some (.int x2), some (.int x3), some (.int y1), some (.int x5), some (.int y2), none] [] U (some (.int r.1), r.2)) (r : (Int32 × pm_S)) (h : F_M_firstTouch_113 N rec27 x0 x1 x2 x3 x4 x5 x6 x7 S = some r) : pmE pG (pm_rel pG sp (d + 2)) mi_M_firstTouch 113 [some (.ref x0), some (.int x1), some (.int x2), some (.int x3), some (.int x4), some (.int x5), some (.int x6), some (.int x7)] [] S (some (.int r.1), r.2) := by
  unfold F_M_firstTouch_113 at h
  refine pE_jump 4 (pc' := 117) (ls' := [some (.ref x0), some (.int x1), some (.int x2), some (.int x3), some (.int x4), some (.int x5), some (.int x6), some (.int x7)]) (st' := [.ref x0, .int x2, .int x1, .ref x0]) (fun _ => rfl) ?_
  obtain ⟨oq15, hq15, h⟩ := obind h
  cases oq15 with
  | none => cases h
  | some q15 =>
    try dsimp only at h
    refine pE_gfS rfl rfl hq15 ?_
    refine pE_jump 1 (pc' := 122) (ls' := [some (.ref x0), some (.int x1), some (.int x2), some (.int x3), some (.int x4), some (.int x5), some (.int x6), some (.int x7)]) (st' := [.int x7, .ref q15, .int x2, .int x1, .ref x0]) (fun _ => rfl) ?_
    obtain ⟨v16, hv16, h⟩ := obind h
    refine pE_aI rfl rfl hv16 ?_
    obtain ⟨⟨v18, S17⟩, hv18, h⟩ := obind h
    try dsimp only at h
    refine pE_iv (Bs := [.int x1, .int x2, .int v16]) (st := []) 1 rfl (Or.inl ⟨rfl, rfl⟩) rfl rfl (Nat.le_of_ble_eq_true rfl) (Nat.le_of_ble_eq_true rfl) (g_M_breaksTo hv18) (f_M_breaksTo sp d N S x0 x1 x2 v16 _ hv18) ?_
    refine pE_jump 1 (pc' := 128) (ls' := [some (.ref x0), some (.int x1), some (.int x2), some (.int x3), some (.int x4), some (.int x5), some (.int x6), some (.int x7)]) (st' := [.int x5, .int v18]) (fun _ => rfl) ?_
    refine pE_br (v18 = x5) rfl rfl (fun c29 => ?_) (fun c29 => ?_)
    · rw [if_pos c29] at h
      refine pE_jump 2 (pc' := 137) (ls' := [some (.ref x0), some (.int x1), some (.int x2), some (.int x3), some (.int x4), some (.int x5), some (.int x6), some (.int x7)]) (st' := [.int (-1), .int x4]) (fun _ => rfl) ?_
      refine pE_br (x4 = (-1)) rfl rfl (fun c28 => ?_) (fun c28 => ?_)
      · rw [if_pos c28] at h
        refine pE_weak [some (.ref x0), some (.int x1), some (.int x2), some (.int x3), none, some (.int x5), some (.int x6), some (.int x7)] ⟨rfl, ⟨rfl, ⟨rfl, ⟨rfl, ⟨rfl, ⟨rfl, ⟨rfl, trivial⟩⟩⟩⟩⟩⟩⟩ ?_
        exact f_M_firstTouch_171 sp d N rec27 x0 x1 x2 x3 x5 x6 x7 S17 hrec27 _ h
      · rw [if_neg c28] at h
        refine pE_jump 1 (pc' := 141) (ls' := [some (.ref x0), some (.int x1), some (.int x2), some (.int x3), some (.int x4), some (.int x5), some (.int x6), some (.int x7)]) (st' := [.int x3]) (fun _ => rfl) ?_
        refine pE_br (¬ x3 = 0) rfl rfl (fun c27 => ?_) (fun c27 => ?_)
        · rw [if_neg c27] at h
          refine pE_jump 1 (pc' := 160) (ls' := [some (.ref x0), some (.int x1), some (.int x2), some (.int x3), some (.int x4), some (.int x5), some (.int x6), some (.int x7)]) (st' := [.ref x0]) (fun _ => rfl) ?_
          obtain ⟨oq24, hq24, h⟩ := obind h
          cases oq24 with
          | none => cases h
          | some q24 =>
            try dsimp only at h
            refine pE_gfS rfl rfl hq24 ?_
            refine pE_jump 1 (pc' := 165) (ls' := [some (.ref x0), some (.int x1), some (.int x2), some (.int x3), some (.int x4), some (.int x5), some (.int x6), some (.int x7)]) (st' := [.int x7, .ref q24]) (fun _ => rfl) ?_
            obtain ⟨v25, hv25, h⟩ := obind h
            refine pE_aI rfl rfl hv25 ?_
            refine pE_jump 1 (pc' := 168) (ls' := [some (.ref x0), some (.int x1), some (.int x2), some (.int x3), some (.int x4), some (.int x5), some (.int x6), some (.int x7)]) (st' := [.int x4, .int v25]) (fun _ => rfl) ?_
            refine pE_br (v25 ≤ x4) rfl rfl (fun c26 => ?_) (fun c26 => ?_)
            · rw [if_pos c26] at h
              refine pE_weak [some (.ref x0), some (.int x1), some (.int x2), some (.int x3), some (.int x4), some (.int x5), some (.int x6), none] ⟨rfl, ⟨rfl, ⟨rfl, ⟨rfl, ⟨rfl, ⟨rfl, ⟨rfl, trivial⟩⟩⟩⟩⟩⟩⟩ ?_
              exact f_M_firstTouch_180 sp d N rec27 x0 x1 x2 x3 x4 x5 x6 S17 hrec27 _ h
            · rw [if_neg c26] at h
              refine pE_weak [some (.ref x0), some (.int x1), some (.int x2), some (.int x3), none, some (.int x5), some (.int x6), some (.int x7)] ⟨rfl, ⟨rfl, ⟨rfl, ⟨rfl, ⟨rfl, ⟨rfl, ⟨rfl, trivial⟩⟩⟩⟩⟩⟩⟩ ?_
              exact f_M_firstTouch_171 sp d N rec27 x0 x1 x2 x3 x5 x6 x7 S17 hrec27 _ h
        · have c27 := Decidable.not_not.mp c27
          rw [if_pos c27] at h
          refine pE_jump 1 (pc' := 145) (ls' := [some (.ref x0), some (.int x1), some (.int x2), some (.int x3), some (.int x4), some (.int x5), some (.int x6), some (.int x7)]) (st' := [.ref x0]) (fun _ => rfl) ?_
          obtain ⟨oq21, hq21, h⟩ := obind h
          cases oq21 with
          | none => cases h
          | some q21 =>
            try dsimp only at h
            refine pE_gfS rfl rfl hq21 ?_
            refine pE_jump 1 (pc' := 150) (ls' := [some (.ref x0), some (.int x1), some (.int x2), some (.int x3), some (.int x4), some (.int x5), some (.int x6), some (.int x7)]) (st' := [.int x7, .ref q21]) (fun _ => rfl) ?_
            obtain ⟨v22, hv22, h⟩ := obind h
            refine pE_aI rfl rfl hv22 ?_
            refine pE_jump 1 (pc' := 153) (ls' := [some (.ref x0), some (.int x1), some (.int x2), some (.int x3), some (.int x4), some (.int x5), some (.int x6), some (.int x7)]) (st' := [.int x4, .int v22]) (fun _ => rfl) ?_
            refine pE_br (x4 ≤ v22) rfl rfl (fun c23 => ?_) (fun c23 => ?_)
            · rw [if_pos c23] at h
              refine pE_weak [some (.ref x0), some (.int x1), some (.int x2), some (.int x3), some (.int x4), some (.int x5), some (.int x6), none] ⟨rfl, ⟨rfl, ⟨rfl, ⟨rfl, ⟨rfl, ⟨rfl, ⟨rfl, trivial⟩⟩⟩⟩⟩⟩⟩ ?_
              exact f_M_firstTouch_180 sp d N rec27 x0 x1 x2 x3 x4 x5 x6 S17 hrec27 _ h
            · rw [if_neg c23] at h
              refine pE_jump 1 (pc' := 171) (ls' := [some (.ref x0), some (.int x1), some (.int x2), some (.int x3), some (.int x4), some (.int x5), some (.int x6), some (.int x7)]) (st' := []) (fun _ => rfl) ?_
              refine pE_weak [some (.ref x0), some (.int x1), some (.int x2), some (.int x3), none, some (.int x5), some (.int x6), some (.int x7)] ⟨rfl, ⟨rfl, ⟨rfl, ⟨rfl, ⟨rfl, ⟨rfl, ⟨rfl, trivial⟩⟩⟩⟩⟩⟩⟩ ?_
              exact f_M_firstTouch_171 sp d N rec27 x0 x1 x2 x3 x5 x6 x7 S17 hrec27 _ h
    · rw [if_neg c29] at h
      refine pE_jump 1 (pc' := 180) (ls' := [some (.ref x0), some (.int x1), some (.int x2), some (.int x3), some (.int x4), some (.int x5), some (.int x6), some (.int x7)]) (st' := []) (fun _ => rfl) ?_
      refine pE_weak [some (.ref x0), some (.int x1), some (.int x2), some (.int x3), some (.int x4), some (.int x5), some (.int x6), none] ⟨rfl, ⟨rfl, ⟨rfl, ⟨rfl, ⟨rfl, ⟨rfl, ⟨rfl, trivial⟩⟩⟩⟩⟩⟩⟩ ?_
      exact f_M_firstTouch_180 sp d N rec27 x0 x1 x2 x3 x4 x5 x6 S17 hrec27 _ h
def B_M_firstTouch_27 (N : Nat)  (rec27 : Int32 → Int32 → pm_S → Option (Int32 × pm_S)) (x0 : Nat) (x1 : Int32) (x2 : Int32) (x3 : Int32) (x5 : Int32) (x4 : Int32) (x6 : Int32) (S : pm_S) : Option (Int32 × pm_S) :=
    (oR S x0 11 20).bind fun oq1 => match oq1 with
    | none => none
    | some q1 =>
    (oI S x0 11 29).bind fun v3 =>
    (aI [0, 6] S q1 v3).bind fun v4 =>
    if v4 ≤ x6 then
    F_M_firstTouch_186 N x4 S
    else
    ((oI S x0 11 34).bind fun v5 =>
    if v5 = 0 then
    F_M_firstTouch_186 N x4 S
    else
    ((oI S x0 11 29).bind fun v6 =>
    (F_M_isSo N S x0 x6).bind fun (v8, S7) =>
    if v8 = 0 then
    F_M_firstTouch_180 N rec27 x0 x1 x2 x3 x4 x5 x6 S7
    else
    ((oR S7 x0 11 21).bind fun oq9 => match oq9 with
    | none => none
    | some q9 =>
    (aI [0, 6] S7 q9 ((10 * v6) + x6)).bind fun v10 =>
    if v10 = 2 then
    ((oR S7 x0 11 22).bind fun oq11 => match oq11 with
    | none => none
    | some q11 =>
    (aI [0, 6] S7 q11 ((10 * v6) + x6)).bind fun v12 =>
    if v12 = x1 then
    ((oR S7 x0 11 23).bind fun oq13 => match oq13 with
    | none => none
    | some q13 =>
    (aI [0, 6] S7 q13 ((10 * v6) + x6)).bind fun v14 =>
    if v14 = x2 then
    F_M_firstTouch_113 N rec27 x0 x1 x2 x3 x4 x5 x6 ((10 * v6) + x6) S7
    else
    ((oR S7 x0 11 24).bind fun oq30 => match oq30 with
    | none => none
    | some q30 =>
    (aI [0, 6] S7 q30 ((10 * v6) + x6)).bind fun v31 =>
    if v31 = x2 then
    F_M_firstTouch_113 N rec27 x0 x1 x2 x3 x4 x5 x6 ((10 * v6) + x6) S7
    else
    F_M_firstTouch_180 N rec27 x0 x1 x2 x3 x4 x5 x6 S7))
    else
    F_M_firstTouch_180 N rec27 x0 x1 x2 x3 x4 x5 x6 S7)
    else
    F_M_firstTouch_180 N rec27 x0 x1 x2 x3 x4 x5 x6 S7)))
def F_M_firstTouch_27 (N : Nat)  (x0 : Nat) (x1 : Int32) (x2 : Int32) (x3 : Int32) (x5 : Int32) : Nat → Int32 → Int32 → pm_S → Option (Int32 × pm_S)
  | 0 => fun _ _ _ => none
  | n + 1 => fun x4 x6 S => B_M_firstTouch_27 N  (F_M_firstTouch_27 N  x0 x1 x2 x3 x5 n) x0 x1 x2 x3 x5 x4 x6 S
set_option maxHeartbeats 4000000 in
set_option maxRecDepth 20000 in
theorem f_M_firstTouch_27 (sp : pm_I → List Value → pm_S → pm_O → Prop) (d N : Nat)  (x0 : Nat) (x1 : Int32) (x2 : Int32) (x3 : Int32) (x5 : Int32)  : ∀ (n : Nat) (x4 : Int32) (x6 : Int32) (S : pm_S) (r : (Int32 × pm_S)), F_M_firstTouch_27 N  x0 x1 x2 x3 x5 n x4 x6 S = some r → pmE pG (pm_rel pG sp (d + 2)) mi_M_firstTouch 27 [some (.ref x0), some (.int x1), some (.int x2), some (.int x3), some (.int x4), some (.int x5), some (.int x6), none] [] S (some (.int r.1), r.2) := by
  intro n
  induction n with
  | zero =>
    intro x4 x6 S r h
    cases h
  | succ n ih =>
    intro x4 x6 S r h
    replace h : B_M_firstTouch_27 N  (F_M_firstTouch_27 N  x0 x1 x2 x3 x5 n) x0 x1 x2 x3 x5 x4 x6 S = some r := h
    have hrec27 := ih
    generalize F_M_firstTouch_27 N  x0 x1 x2 x3 x5 n = rec27 at h hrec27
    unfold B_M_firstTouch_27 at h
    refine pE_jump 2 (pc' := 30) (ls' := [some (.ref x0), some (.int x1), some (.int x2), some (.int x3), some (.int x4), some (.int x5), some (.int x6), none]) (st' := [.ref x0, .int x6]) (fun _ => rfl) ?_
    obtain ⟨oq1, hq1, h⟩ := obind h
    cases oq1 with
    | none => cases h
    | some q1 =>
      try dsimp only at h
      refine pE_gfS rfl rfl hq1 ?_
      refine pE_jump 1 (pc' := 34) (ls' := [some (.ref x0), some (.int x1), some (.int x2), some (.int x3), some (.int x4), some (.int x5), some (.int x6), none]) (st' := [.ref x0, .ref q1, .int x6]) (fun _ => rfl) ?_
      obtain ⟨v3, hv3, h⟩ := obind h
      refine pE_gfI rfl rfl hv3 ?_
      obtain ⟨v4, hv4, h⟩ := obind h
      refine pE_aI rfl rfl hv4 ?_
      refine pE_br (v4 ≤ x6) rfl rfl (fun c38 => ?_) (fun c38 => ?_)
      · rw [if_pos c38] at h
        refine pE_weak [none, none, none, none, some (.int x4), none, none, none] ⟨rfl, trivial⟩ ?_
        exact f_M_firstTouch_186 sp d N x4 S _ h
      · rw [if_neg c38] at h
        refine pE_jump 1 (pc' := 42) (ls' := [some (.ref x0), some (.int x1), some (.int x2), some (.int x3), some (.int x4), some (.int x5), some (.int x6), none]) (st' := [.ref x0]) (fun _ => rfl) ?_
        obtain ⟨v5, hv5, h⟩ := obind h
        refine pE_gfI rfl rfl hv5 ?_
        refine pE_br (v5 = 0) rfl rfl (fun c37 => ?_) (fun c37 => ?_)
        · rw [if_pos c37] at h
          refine pE_weak [none, none, none, none, some (.int x4), none, none, none] ⟨rfl, trivial⟩ ?_
          exact f_M_firstTouch_186 sp d N x4 S _ h
        · rw [if_neg c37] at h
          refine pE_jump 2 (pc' := 51) (ls' := [some (.ref x0), some (.int x1), some (.int x2), some (.int x3), some (.int x4), some (.int x5), some (.int x6), none]) (st' := [.ref x0, .int 10]) (fun _ => rfl) ?_
          obtain ⟨v6, hv6, h⟩ := obind h
          refine pE_gfI rfl rfl hv6 ?_
          refine pE_jump 6 (pc' := 63) (ls' := [some (.ref x0), some (.int x1), some (.int x2), some (.int x3), some (.int x4), some (.int x5), some (.int x6), some (.int ((10 * v6) + x6))]) (st' := [.int x6, .ref x0]) (fun _ => rfl) ?_
          obtain ⟨⟨v8, S7⟩, hv8, h⟩ := obind h
          try dsimp only at h
          refine pE_iv (Bs := [.int x6]) (st := []) 1 rfl (Or.inl ⟨rfl, rfl⟩) rfl rfl (Nat.le_of_ble_eq_true rfl) (Nat.le_of_ble_eq_true rfl) (g_M_isSo hv8) (f_M_isSo sp (d + 1) N S x0 x6 _ hv8) ?_
          refine pE_br (v8 = 0) rfl rfl (fun c36 => ?_) (fun c36 => ?_)
          · rw [if_pos c36] at h
            refine pE_weak [some (.ref x0), some (.int x1), some (.int x2), some (.int x3), some (.int x4), some (.int x5), some (.int x6), none] ⟨rfl, ⟨rfl, ⟨rfl, ⟨rfl, ⟨rfl, ⟨rfl, ⟨rfl, trivial⟩⟩⟩⟩⟩⟩⟩ ?_
            exact f_M_firstTouch_180 sp d N rec27 x0 x1 x2 x3 x4 x5 x6 S7 hrec27 _ h
          · rw [if_neg c36] at h
            refine pE_jump 1 (pc' := 70) (ls' := [some (.ref x0), some (.int x1), some (.int x2), some (.int x3), some (.int x4), some (.int x5), some (.int x6), some (.int ((10 * v6) + x6))]) (st' := [.ref x0]) (fun _ => rfl) ?_
            obtain ⟨oq9, hq9, h⟩ := obind h
            cases oq9 with
            | none => cases h
            | some q9 =>
              try dsimp only at h
              refine pE_gfS rfl rfl hq9 ?_
              refine pE_jump 1 (pc' := 75) (ls' := [some (.ref x0), some (.int x1), some (.int x2), some (.int x3), some (.int x4), some (.int x5), some (.int x6), some (.int ((10 * v6) + x6))]) (st' := [.int ((10 * v6) + x6), .ref q9]) (fun _ => rfl) ?_
              obtain ⟨v10, hv10, h⟩ := obind h
              refine pE_aI rfl rfl hv10 ?_
              refine pE_jump 1 (pc' := 77) (ls' := [some (.ref x0), some (.int x1), some (.int x2), some (.int x3), some (.int x4), some (.int x5), some (.int x6), some (.int ((10 * v6) + x6))]) (st' := [.int 2, .int v10]) (fun _ => rfl) ?_
              refine pE_br (¬ v10 = 2) rfl rfl (fun c35 => ?_) (fun c35 => ?_)
              · rw [if_neg c35] at h
                refine pE_weak [some (.ref x0), some (.int x1), some (.int x2), some (.int x3), some (.int x4), some (.int x5), some (.int x6), none] ⟨rfl, ⟨rfl, ⟨rfl, ⟨rfl, ⟨rfl, ⟨rfl, ⟨rfl, trivial⟩⟩⟩⟩⟩⟩⟩ ?_
                exact f_M_firstTouch_180 sp d N rec27 x0 x1 x2 x3 x4 x5 x6 S7 hrec27 _ h
              · have c35 := Decidable.not_not.mp c35
                rw [if_pos c35] at h
                refine pE_jump 1 (pc' := 81) (ls' := [some (.ref x0), some (.int x1), some (.int x2), some (.int x3), some (.int x4), some (.int x5), some (.int x6), some (.int ((10 * v6) + x6))]) (st' := [.ref x0]) (fun _ => rfl) ?_
                obtain ⟨oq11, hq11, h⟩ := obind h
                cases oq11 with
                | none => cases h
                | some q11 =>
                  try dsimp only at h
                  refine pE_gfS rfl rfl hq11 ?_
                  refine pE_jump 1 (pc' := 86) (ls' := [some (.ref x0), some (.int x1), some (.int x2), some (.int x3), some (.int x4), some (.int x5), some (.int x6), some (.int ((10 * v6) + x6))]) (st' := [.int ((10 * v6) + x6), .ref q11]) (fun _ => rfl) ?_
                  obtain ⟨v12, hv12, h⟩ := obind h
                  refine pE_aI rfl rfl hv12 ?_
                  refine pE_jump 1 (pc' := 88) (ls' := [some (.ref x0), some (.int x1), some (.int x2), some (.int x3), some (.int x4), some (.int x5), some (.int x6), some (.int ((10 * v6) + x6))]) (st' := [.int x1, .int v12]) (fun _ => rfl) ?_
                  refine pE_br (¬ v12 = x1) rfl rfl (fun c34 => ?_) (fun c34 => ?_)
                  · rw [if_neg c34] at h
                    refine pE_weak [some (.ref x0), some (.int x1), some (.int x2), some (.int x3), some (.int x4), some (.int x5), some (.int x6), none] ⟨rfl, ⟨rfl, ⟨rfl, ⟨rfl, ⟨rfl, ⟨rfl, ⟨rfl, trivial⟩⟩⟩⟩⟩⟩⟩ ?_
                    exact f_M_firstTouch_180 sp d N rec27 x0 x1 x2 x3 x4 x5 x6 S7 hrec27 _ h
                  · have c34 := Decidable.not_not.mp c34
                    rw [if_pos c34] at h
                    refine pE_jump 1 (pc' := 92) (ls' := [some (.ref x0), some (.int x1), some (.int x2), some (.int x3), some (.int x4), some (.int x5), some (.int x6), some (.int ((10 * v6) + x6))]) (st' := [.ref x0]) (fun _ => rfl) ?_
                    obtain ⟨oq13, hq13, h⟩ := obind h
                    cases oq13 with
                    | none => cases h
                    | some q13 =>
                      try dsimp only at h
                      refine pE_gfS rfl rfl hq13 ?_
                      refine pE_jump 1 (pc' := 97) (ls' := [some (.ref x0), some (.int x1), some (.int x2), some (.int x3), some (.int x4), some (.int x5), some (.int x6), some (.int ((10 * v6) + x6))]) (st' := [.int ((10 * v6) + x6), .ref q13]) (fun _ => rfl) ?_
                      obtain ⟨v14, hv14, h⟩ := obind h
                      refine pE_aI rfl rfl hv14 ?_
                      refine pE_jump 1 (pc' := 99) (ls' := [some (.ref x0), some (.int x1), some (.int x2), some (.int x3), some (.int x4), some (.int x5), some (.int x6), some (.int ((10 * v6) + x6))]) (st' := [.int x2, .int v14]) (fun _ => rfl) ?_
                      refine pE_br (v14 = x2) rfl rfl (fun c33 => ?_) (fun c33 => ?_)
                      · rw [if_pos c33] at h
                        exact f_M_firstTouch_113 sp d N rec27 x0 x1 x2 x3 x4 x5 x6 ((10 * v6) + x6) S7 hrec27 _ h
                      · rw [if_neg c33] at h
                        refine pE_jump 1 (pc' := 103) (ls' := [some (.ref x0), some (.int x1), some (.int x2), some (.int x3), some (.int x4), some (.int x5), some (.int x6), some (.int ((10 * v6) + x6))]) (st' := [.ref x0]) (fun _ => rfl) ?_
                        obtain ⟨oq30, hq30, h⟩ := obind h
                        cases oq30 with
                        | none => cases h
                        | some q30 =>
                          try dsimp only at h
                          refine pE_gfS rfl rfl hq30 ?_
                          refine pE_jump 1 (pc' := 108) (ls' := [some (.ref x0), some (.int x1), some (.int x2), some (.int x3), some (.int x4), some (.int x5), some (.int x6), some (.int ((10 * v6) + x6))]) (st' := [.int ((10 * v6) + x6), .ref q30]) (fun _ => rfl) ?_
                          obtain ⟨v31, hv31, h⟩ := obind h
                          refine pE_aI rfl rfl hv31 ?_
                          refine pE_jump 1 (pc' := 110) (ls' := [some (.ref x0), some (.int x1), some (.int x2), some (.int x3), some (.int x4), some (.int x5), some (.int x6), some (.int ((10 * v6) + x6))]) (st' := [.int x2, .int v31]) (fun _ => rfl) ?_
                          refine pE_br (¬ v31 = x2) rfl rfl (fun c32 => ?_) (fun c32 => ?_)
                          · rw [if_neg c32] at h
                            refine pE_weak [some (.ref x0), some (.int x1), some (.int x2), some (.int x3), some (.int x4), some (.int x5), some (.int x6), none] ⟨rfl, ⟨rfl, ⟨rfl, ⟨rfl, ⟨rfl, ⟨rfl, ⟨rfl, trivial⟩⟩⟩⟩⟩⟩⟩ ?_
                            exact f_M_firstTouch_180 sp d N rec27 x0 x1 x2 x3 x4 x5 x6 S7 hrec27 _ h
                          · have c32 := Decidable.not_not.mp c32
                            rw [if_pos c32] at h
                            exact f_M_firstTouch_113 sp d N rec27 x0 x1 x2 x3 x4 x5 x6 ((10 * v6) + x6) S7 hrec27 _ h
def F_M_firstTouch_22 (N : Nat)  (x0 : Nat) (x1 : Int32) (x2 : Int32) (x3 : Int32) (x4 : Int32) (t0 : Int32) (S : pm_S) : Option (Int32 × pm_S) :=
    F_M_firstTouch_27 N x0 x1 x2 x3 t0 N x4 0 S
set_option maxHeartbeats 4000000 in
set_option maxRecDepth 20000 in
theorem f_M_firstTouch_22 (sp : pm_I → List Value → pm_S → pm_O → Prop) (d N : Nat)  (x0 : Nat) (x1 : Int32) (x2 : Int32) (x3 : Int32) (x4 : Int32) (t0 : Int32) (S : pm_S)  (r : (Int32 × pm_S)) (h : F_M_firstTouch_22 N  x0 x1 x2 x3 x4 t0 S = some r) : pmE pG (pm_rel pG sp (d + 2)) mi_M_firstTouch 22 [some (.ref x0), some (.int x1), some (.int x2), some (.int x3), some (.int x4), none, none, none] [.int t0] S (some (.int r.1), r.2) := by
  unfold F_M_firstTouch_22 at h
  refine pE_jump 3 (pc' := 27) (ls' := [some (.ref x0), some (.int x1), some (.int x2), some (.int x3), some (.int x4), some (.int t0), some (.int 0), none]) (st' := []) (fun _ => rfl) ?_
  exact f_M_firstTouch_27 sp d N x0 x1 x2 x3 t0 N x4 0 S _ h
def F_M_firstTouch (N : Nat) (S : pm_S) (a : Nat) (p0 : Int32) (p1 : Int32) (p2 : Int32) : Option (Int32 × pm_S) :=
    if rcv S a 11 = true then
    (if p2 = 0 then
    F_M_firstTouch_22 N a p0 p1 p2 (-1) 0 S
    else
    ((F_M_longOf N S a p0).bind fun (v40, S39) =>
    (F_M_breaksTo N S39 a p0 p1 v40).bind fun (v42, S41) =>
    F_M_firstTouch_22 N a p0 p1 p2 (-1) v42 S41))
    else none
theorem g_M_firstTouch {N : Nat} {S : pm_S} {a : Nat} {p0 : Int32} {p1 : Int32} {p2 : Int32} {r : (Int32 × pm_S)} (h : F_M_firstTouch N S a p0 p1 p2 = some r) : rcv S a 11 = true := by
  unfold F_M_firstTouch at h
  by_cases c : rcv S a 11 = true
  · exact c
  · rw [if_neg c] at h; cases h
set_option maxHeartbeats 4000000 in
set_option maxRecDepth 20000 in
theorem f_M_firstTouch (sp : pm_I → List Value → pm_S → pm_O → Prop) (d N : Nat) (S : pm_S) (a : Nat) (p0 : Int32) (p1 : Int32) (p2 : Int32) (r : (Int32 × pm_S)) (h : F_M_firstTouch N S a p0 p1 p2 = some r) : pm_rel pG sp (d + 3) mi_M_firstTouch [.ref a, .int p0, .int p1, .int p2] S (some (.int r.1), r.2) := by
  have hg := g_M_firstTouch h
  unfold F_M_firstTouch at h
  rw [if_pos hg] at h
  refine pE_rel (d := d + 2) ?_
  show pmE pG _ mi_M_firstTouch 0 [some (.ref a), some (.int p0), some (.int p1), some (.int p2), none, none, none, none] [] S _
  refine pE_jump 3 (pc' := 4) (ls' := [some (.ref a), some (.int p0), some (.int p1), some (.int p2), some (.int (-1)), none, none, none]) (st' := [.int p2]) (fun _ => rfl) ?_
  refine pE_br (¬ p2 = 0) rfl rfl (fun c43 => ?_) (fun c43 => ?_)
  · rw [if_neg c43] at h
    refine pE_jump 5 (pc' := 16) (ls' := [some (.ref a), some (.int p0), some (.int p1), some (.int p2), some (.int (-1)), none, none, none]) (st' := [.int p0, .ref a, .int p1, .int p0, .ref a]) (fun _ => rfl) ?_
    obtain ⟨⟨v40, S39⟩, hv40, h⟩ := obind h
    try dsimp only at h
    refine pE_iv (Bs := [.int p0]) (st := [.int p1, .int p0, .ref a]) 1 rfl (Or.inl ⟨rfl, rfl⟩) rfl rfl (Nat.le_of_ble_eq_true rfl) (Nat.le_of_ble_eq_true rfl) (g_M_longOf hv40) (f_M_longOf sp (d + 1) N S a p0 _ hv40) ?_
    obtain ⟨⟨v42, S41⟩, hv42, h⟩ := obind h
    try dsimp only at h
    refine pE_iv (Bs := [.int p0, .int p1, .int v40]) (st := []) 1 rfl (Or.inl ⟨rfl, rfl⟩) rfl rfl (Nat.le_of_ble_eq_true rfl) (Nat.le_of_ble_eq_true rfl) (g_M_breaksTo hv42) (f_M_breaksTo sp d N S39 a p0 p1 v40 _ hv42) ?_
    exact f_M_firstTouch_22 sp d N a p0 p1 p2 (-1) v42 S41 _ h
  · have c43 := Decidable.not_not.mp c43
    rw [if_pos c43] at h
    refine pE_jump 2 (pc' := 22) (ls' := [some (.ref a), some (.int p0), some (.int p1), some (.int p2), some (.int (-1)), none, none, none]) (st' := [.int 0]) (fun _ => rfl) ?_
    exact f_M_firstTouch_22 sp d N a p0 p1 p2 (-1) 0 S _ h
def F_M_firstBreak_72 (N : Nat)   (S : pm_S) : Option (Int32 × pm_S) :=
    some ((-1), S)
set_option maxHeartbeats 4000000 in
set_option maxRecDepth 20000 in
theorem f_M_firstBreak_72 (sp : pm_I → List Value → pm_S → pm_O → Prop) (d N : Nat)   (S : pm_S)  (r : (Int32 × pm_S)) (h : F_M_firstBreak_72 N   S = some r) : pmE pG (pm_rel pG sp (d + 2)) mi_M_firstBreak 72 [none, none, none, none, none, none] [] S (some (.int r.1), r.2) := by
  unfold F_M_firstBreak_72 at h
  refine pE_jump 1 (pc' := 73) (ls' := [none, none, none, none, none, none]) (st' := [.int (-1)]) (fun _ => rfl) ?_
  cases h
  exact pE_ret rfl rfl rfl
def F_M_firstBreak_63 (N : Nat)  (x5 : Int32) (S : pm_S) : Option (Int32 × pm_S) :=
    some (x5, S)
set_option maxHeartbeats 4000000 in
set_option maxRecDepth 20000 in
theorem f_M_firstBreak_63 (sp : pm_I → List Value → pm_S → pm_O → Prop) (d N : Nat)  (x5 : Int32) (S : pm_S)  (r : (Int32 × pm_S)) (h : F_M_firstBreak_63 N  x5 S = some r) : pmE pG (pm_rel pG sp (d + 2)) mi_M_firstBreak 63 [none, none, none, none, none, some (.int x5)] [] S (some (.int r.1), r.2) := by
  unfold F_M_firstBreak_63 at h
  refine pE_jump 1 (pc' := 65) (ls' := [none, none, none, none, none, some (.int x5)]) (st' := [.int x5]) (fun _ => rfl) ?_
  cases h
  exact pE_ret rfl rfl rfl
def F_M_firstBreak_59 (N : Nat) (rec3 : Int32 → pm_S → Option (Int32 × pm_S)) (x0 : Nat) (x1 : Int32) (x2 : Int32) (x3 : Int32) (x4 : Int32) (x5 : Int32) (t0 : Int32) (t1 : Int32) (S : pm_S) : Option (Int32 × pm_S) :=
    if (t1 - t0) ≤ 0 then
    rec3 (x4 + 1) S
    else
    F_M_firstBreak_63 N x5 S
set_option maxHeartbeats 4000000 in
set_option maxRecDepth 20000 in
theorem f_M_firstBreak_59 (sp : pm_I → List Value → pm_S → pm_O → Prop) (d N : Nat) (rec3 : Int32 → pm_S → Option (Int32 × pm_S)) (x0 : Nat) (x1 : Int32) (x2 : Int32) (x3 : Int32) (x4 : Int32) (x5 : Int32) (t0 : Int32) (t1 : Int32) (S : pm_S) (hrec3 : ∀ (y1 : Int32) (U : pm_S) (r : (Int32 × pm_S)), rec3 y1 U = some r → pmE pG (pm_rel pG sp (d + 2)) mi_M_firstBreak 3 [some (.ref x0), some (.int x1), some (.int x2), some (.int x3), some (.int y1), none] [] U (some (.int r.1), r.2)) (r : (Int32 × pm_S)) (h : F_M_firstBreak_59 N rec3 x0 x1 x2 x3 x4 x5 t0 t1 S = some r) : pmE pG (pm_rel pG sp (d + 2)) mi_M_firstBreak 59 [some (.ref x0), some (.int x1), some (.int x2), some (.int x3), some (.int x4), some (.int x5)] [.int t0, .int t1] S (some (.int r.1), r.2) := by
  unfold F_M_firstBreak_59 at h
  refine pE_jump 1 (pc' := 60) (ls' := [some (.ref x0), some (.int x1), some (.int x2), some (.int x3), some (.int x4), some (.int x5)]) (st' := [.int (t1 - t0)]) (fun _ => rfl) ?_
  refine pE_br ((t1 - t0) ≤ 0) rfl rfl (fun c5 => ?_) (fun c5 => ?_)
  · rw [if_pos c5] at h
    refine pE_jump 2 (pc' := 3) (ls' := [some (.ref x0), some (.int x1), some (.int x2), some (.int x3), some (.int (x4 + 1)), some (.int x5)]) (st' := []) (fun _ => rfl) ?_
    refine pE_weak [some (.ref x0), some (.int x1), some (.int x2), some (.int x3), some (.int (x4 + 1)), none] ⟨rfl, ⟨rfl, ⟨rfl, ⟨rfl, ⟨rfl, trivial⟩⟩⟩⟩⟩ ?_
    exact hrec3 (x4 + 1) S _ h
  · rw [if_neg c5] at h
    refine pE_weak [none, none, none, none, none, some (.int x5)] ⟨rfl, trivial⟩ ?_
    exact f_M_firstBreak_63 sp d N x5 S _ h
def F_M_firstBreak_30 (N : Nat) (rec3 : Int32 → pm_S → Option (Int32 × pm_S)) (x0 : Nat) (x1 : Int32) (x2 : Int32) (x3 : Int32) (x4 : Int32) (t0 : Int32) (S : pm_S) : Option (Int32 × pm_S) :=
    (F_M_breaksTo N S x0 x1 x2 t0).bind fun (v4, S3) =>
    if t0 = 0 then
    F_M_firstBreak_59 N rec3 x0 x1 x2 x3 x4 t0 0 v4 S3
    else
    ((F_M_breaksTo N S3 x0 x1 x2 (t0 - 1)).bind fun (v7, S6) =>
    F_M_firstBreak_59 N rec3 x0 x1 x2 x3 x4 t0 v7 v4 S6)
set_option maxHeartbeats 4000000 in
set_option maxRecDepth 20000 in
theorem f_M_firstBreak_30 (sp : pm_I → List Value → pm_S → pm_O → Prop) (d N : Nat) (rec3 : Int32 → pm_S → Option (Int32 × pm_S)) (x0 : Nat) (x1 : Int32) (x2 : Int32) (x3 : Int32) (x4 : Int32) (t0 : Int32) (S : pm_S) (hrec3 : ∀ (y1 : Int32) (U : pm_S) (r : (Int32 × pm_S)), rec3 y1 U = some r → pmE pG (pm_rel pG sp (d + 2)) mi_M_firstBreak 3 [some (.ref x0), some (.int x1), some (.int x2), some (.int x3), some (.int y1), none] [] U (some (.int r.1), r.2)) (r : (Int32 × pm_S)) (h : F_M_firstBreak_30 N rec3 x0 x1 x2 x3 x4 t0 S = some r) : pmE pG (pm_rel pG sp (d + 2)) mi_M_firstBreak 30 [some (.ref x0), some (.int x1), some (.int x2), some (.int x3), some (.int x4), none] [.int t0] S (some (.int r.1), r.2) := by
  unfold F_M_firstBreak_30 at h
  refine pE_jump 5 (pc' := 37) (ls' := [some (.ref x0), some (.int x1), some (.int x2), some (.int x3), some (.int x4), some (.int t0)]) (st' := [.int t0, .int x2, .int x1, .ref x0]) (fun _ => rfl) ?_
  obtain ⟨⟨v4, S3⟩, hv4, h⟩ := obind h
  try dsimp only at h
  refine pE_iv (Bs := [.int x1, .int x2, .int t0]) (st := []) 1 rfl (Or.inl ⟨rfl, rfl⟩) rfl rfl (Nat.le_of_ble_eq_true rfl) (Nat.le_of_ble_eq_true rfl) (g_M_breaksTo hv4) (f_M_breaksTo sp d N S x0 x1 x2 t0 _ hv4) ?_
  refine pE_jump 1 (pc' := 42) (ls' := [some (.ref x0), some (.int x1), some (.int x2), some (.int x3), some (.int x4), some (.int t0)]) (st' := [.int t0, .int v4]) (fun _ => rfl) ?_
  refine pE_br (¬ t0 = 0) rfl rfl (fun c8 => ?_) (fun c8 => ?_)
  · rw [if_neg c8] at h
    refine pE_jump 6 (pc' := 56) (ls' := [some (.ref x0), some (.int x1), some (.int x2), some (.int x3), some (.int x4), some (.int t0)]) (st' := [.int (t0 - 1), .int x2, .int x1, .ref x0, .int v4]) (fun _ => rfl) ?_
    obtain ⟨⟨v7, S6⟩, hv7, h⟩ := obind h
    try dsimp only at h
    refine pE_iv (Bs := [.int x1, .int x2, .int (t0 - 1)]) (st := [.int v4]) 1 rfl (Or.inl ⟨rfl, rfl⟩) rfl rfl (Nat.le_of_ble_eq_true rfl) (Nat.le_of_ble_eq_true rfl) (g_M_breaksTo hv7) (f_M_breaksTo sp d N S3 x0 x1 x2 (t0 - 1) _ hv7) ?_
    exact f_M_firstBreak_59 sp d N rec3 x0 x1 x2 x3 x4 t0 v7 v4 S6 hrec3 _ h
  · have c8 := Decidable.not_not.mp c8
    rw [if_pos c8] at h
    refine pE_jump 2 (pc' := 59) (ls' := [some (.ref x0), some (.int x1), some (.int x2), some (.int x3), some (.int x4), some (.int t0)]) (st' := [.int 0, .int v4]) (fun _ => rfl) ?_
    exact f_M_firstBreak_59 sp d N rec3 x0 x1 x2 x3 x4 t0 0 v4 S3 hrec3 _ h
def B_M_firstBreak_3 (N : Nat)  (rec3 : Int32 → pm_S → Option (Int32 × pm_S)) (x0 : Nat) (x1 : Int32) (x2 : Int32) (x3 : Int32) (x4 : Int32) (S : pm_S) : Option (Int32 × pm_S) :=
    (F_M_longOf N S x0 x1).bind fun (v2, S1) =>
    if v2 < x4 then
    F_M_firstBreak_72 N S1
    else
    (if x3 = 0 then
    F_M_firstBreak_30 N rec3 x0 x1 x2 x3 x4 x4 S1
    else
    ((F_M_longOf N S1 x0 x1).bind fun (v10, S9) =>
    F_M_firstBreak_30 N rec3 x0 x1 x2 x3 x4 (v10 - x4) S9))
def F_M_firstBreak_3 (N : Nat)  (x0 : Nat) (x1 : Int32) (x2 : Int32) (x3 : Int32) : Nat → Int32 → pm_S → Option (Int32 × pm_S)
  | 0 => fun _ _ => none
  | n + 1 => fun x4 S => B_M_firstBreak_3 N  (F_M_firstBreak_3 N  x0 x1 x2 x3 n) x0 x1 x2 x3 x4 S
set_option maxHeartbeats 4000000 in
set_option maxRecDepth 20000 in
theorem f_M_firstBreak_3 (sp : pm_I → List Value → pm_S → pm_O → Prop) (d N : Nat)  (x0 : Nat) (x1 : Int32) (x2 : Int32) (x3 : Int32)  : ∀ (n : Nat) (x4 : Int32) (S : pm_S) (r : (Int32 × pm_S)), F_M_firstBreak_3 N  x0 x1 x2 x3 n x4 S = some r → pmE pG (pm_rel pG sp (d + 2)) mi_M_firstBreak 3 [some (.ref x0), some (.int x1), some (.int x2), some (.int x3), some (.int x4), none] [] S (some (.int r.1), r.2) := by
  intro n
  induction n with
  | zero =>
    intro x4 S r h
    cases h
  | succ n ih =>
    intro x4 S r h
    replace h : B_M_firstBreak_3 N  (F_M_firstBreak_3 N  x0 x1 x2 x3 n) x0 x1 x2 x3 x4 S = some r := h
    have hrec3 := ih
    generalize F_M_firstBreak_3 N  x0 x1 x2 x3 n = rec3 at h hrec3
    unfold B_M_firstBreak_3 at h
    refine pE_jump 3 (pc' := 7) (ls' := [some (.ref x0), some (.int x1), some (.int x2), some (.int x3), some (.int x4), none]) (st' := [.int x1, .ref x0, .int x4]) (fun _ => rfl) ?_
    obtain ⟨⟨v2, S1⟩, hv2, h⟩ := obind h
    try dsimp only at h
    refine pE_iv (Bs := [.int x1]) (st := [.int x4]) 1 rfl (Or.inl ⟨rfl, rfl⟩) rfl rfl (Nat.le_of_ble_eq_true rfl) (Nat.le_of_ble_eq_true rfl) (g_M_longOf hv2) (f_M_longOf sp (d + 1) N S x0 x1 _ hv2) ?_
    refine pE_br (v2 < x4) rfl rfl (fun c12 => ?_) (fun c12 => ?_)
    · rw [if_pos c12] at h
      refine pE_weak [none, none, none, none, none, none] trivial ?_
      exact f_M_firstBreak_72 sp d N S1 _ h
    · rw [if_neg c12] at h
      refine pE_jump 1 (pc' := 14) (ls' := [some (.ref x0), some (.int x1), some (.int x2), some (.int x3), some (.int x4), none]) (st' := [.int x3]) (fun _ => rfl) ?_
      refine pE_br (¬ x3 = 0) rfl rfl (fun c11 => ?_) (fun c11 => ?_)
      · rw [if_neg c11] at h
        refine pE_jump 2 (pc' := 24) (ls' := [some (.ref x0), some (.int x1), some (.int x2), some (.int x3), some (.int x4), none]) (st' := [.int x1, .ref x0]) (fun _ => rfl) ?_
        obtain ⟨⟨v10, S9⟩, hv10, h⟩ := obind h
        try dsimp only at h
        refine pE_iv (Bs := [.int x1]) (st := []) 1 rfl (Or.inl ⟨rfl, rfl⟩) rfl rfl (Nat.le_of_ble_eq_true rfl) (Nat.le_of_ble_eq_true rfl) (g_M_longOf hv10) (f_M_longOf sp (d + 1) N S1 x0 x1 _ hv10) ?_
        refine pE_jump 2 (pc' := 30) (ls' := [some (.ref x0), some (.int x1), some (.int x2), some (.int x3), some (.int x4), none]) (st' := [.int (v10 - x4)]) (fun _ => rfl) ?_
        exact f_M_firstBreak_30 sp d N rec3 x0 x1 x2 x3 x4 (v10 - x4) S9 hrec3 _ h
      · have c11 := Decidable.not_not.mp c11
        rw [if_pos c11] at h
        refine pE_jump 2 (pc' := 30) (ls' := [some (.ref x0), some (.int x1), some (.int x2), some (.int x3), some (.int x4), none]) (st' := [.int x4]) (fun _ => rfl) ?_
        exact f_M_firstBreak_30 sp d N rec3 x0 x1 x2 x3 x4 x4 S1 hrec3 _ h
def F_M_firstBreak (N : Nat) (S : pm_S) (a : Nat) (p0 : Int32) (p1 : Int32) (p2 : Int32) : Option (Int32 × pm_S) :=
    if rcv S a 11 = true then
    (F_M_firstBreak_3 N a p0 p1 p2 N 0 S)
    else none
theorem g_M_firstBreak {N : Nat} {S : pm_S} {a : Nat} {p0 : Int32} {p1 : Int32} {p2 : Int32} {r : (Int32 × pm_S)} (h : F_M_firstBreak N S a p0 p1 p2 = some r) : rcv S a 11 = true := by
  unfold F_M_firstBreak at h
  by_cases c : rcv S a 11 = true
  · exact c
  · rw [if_neg c] at h; cases h
set_option maxHeartbeats 4000000 in
set_option maxRecDepth 20000 in
theorem f_M_firstBreak (sp : pm_I → List Value → pm_S → pm_O → Prop) (d N : Nat) (S : pm_S) (a : Nat) (p0 : Int32) (p1 : Int32) (p2 : Int32) (r : (Int32 × pm_S)) (h : F_M_firstBreak N S a p0 p1 p2 = some r) : pm_rel pG sp (d + 3) mi_M_firstBreak [.ref a, .int p0, .int p1, .int p2] S (some (.int r.1), r.2) := by
  have hg := g_M_firstBreak h
  unfold F_M_firstBreak at h
  rw [if_pos hg] at h
  refine pE_rel (d := d + 2) ?_
  show pmE pG _ mi_M_firstBreak 0 [some (.ref a), some (.int p0), some (.int p1), some (.int p2), none, none] [] S _
  refine pE_jump 2 (pc' := 3) (ls' := [some (.ref a), some (.int p0), some (.int p1), some (.int p2), some (.int 0), none]) (st' := []) (fun _ => rfl) ?_
  exact f_M_firstBreak_3 sp d N a p0 p1 p2 N 0 S _ h
def F_M_joinedAhead_31 (N : Nat)   (S : pm_S) : Option (Int32 × pm_S) :=
    some ((-1), S)
set_option maxHeartbeats 4000000 in
set_option maxRecDepth 20000 in
theorem f_M_joinedAhead_31 (sp : pm_I → List Value → pm_S → pm_O → Prop) (d N : Nat)   (S : pm_S)  (r : (Int32 × pm_S)) (h : F_M_joinedAhead_31 N   S = some r) : pmE pG (pm_rel pG sp (d + 0)) mi_M_joinedAhead 31 [none, none, none, none] [] S (some (.int r.1), r.2) := by
  unfold F_M_joinedAhead_31 at h
  refine pE_jump 1 (pc' := 32) (ls' := [none, none, none, none]) (st' := [.int (-1)]) (fun _ => rfl) ?_
  cases h
  exact pE_ret rfl rfl rfl
def F_M_joinedAhead_23 (N : Nat)  (x3 : Int32) (S : pm_S) : Option (Int32 × pm_S) :=
    some (x3, S)
set_option maxHeartbeats 4000000 in
set_option maxRecDepth 20000 in
theorem f_M_joinedAhead_23 (sp : pm_I → List Value → pm_S → pm_O → Prop) (d N : Nat)  (x3 : Int32) (S : pm_S)  (r : (Int32 × pm_S)) (h : F_M_joinedAhead_23 N  x3 S = some r) : pmE pG (pm_rel pG sp (d + 0)) mi_M_joinedAhead 23 [none, none, none, some (.int x3)] [] S (some (.int r.1), r.2) := by
  unfold F_M_joinedAhead_23 at h
  refine pE_jump 1 (pc' := 24) (ls' := [none, none, none, some (.int x3)]) (st' := [.int x3]) (fun _ => rfl) ?_
  cases h
  exact pE_ret rfl rfl rfl
def B_M_joinedAhead_2 (N : Nat)  (rec2 : Int32 → pm_S → Option (Int32 × pm_S)) (x0 : Nat) (x1 : Int32) (x2 : Int32) (x3 : Int32) (S : pm_S) : Option (Int32 × pm_S) :=
    if 42 ≤ x3 then
    F_M_joinedAhead_31 N S
    else
    ((oR S x0 11 26).bind fun oq1 => match oq1 with
    | none => none
    | some q1 =>
    (aI [0, 6] S q1 x3).bind fun v2 =>
    if v2 = ((6 * x1) + x2) then
    F_M_joinedAhead_23 N x3 S
    else
    rec2 (x3 + 1) S)
def F_M_joinedAhead_2 (N : Nat)  (x0 : Nat) (x1 : Int32) (x2 : Int32) : Nat → Int32 → pm_S → Option (Int32 × pm_S)
  | 0 => fun _ _ => none
  | n + 1 => fun x3 S => B_M_joinedAhead_2 N  (F_M_joinedAhead_2 N  x0 x1 x2 n) x0 x1 x2 x3 S
set_option maxHeartbeats 4000000 in
set_option maxRecDepth 20000 in
theorem f_M_joinedAhead_2 (sp : pm_I → List Value → pm_S → pm_O → Prop) (d N : Nat)  (x0 : Nat) (x1 : Int32) (x2 : Int32)  : ∀ (n : Nat) (x3 : Int32) (S : pm_S) (r : (Int32 × pm_S)), F_M_joinedAhead_2 N  x0 x1 x2 n x3 S = some r → pmE pG (pm_rel pG sp (d + 0)) mi_M_joinedAhead 2 [some (.ref x0), some (.int x1), some (.int x2), some (.int x3)] [] S (some (.int r.1), r.2) := by
  intro n
  induction n with
  | zero =>
    intro x3 S r h
    cases h
  | succ n ih =>
    intro x3 S r h
    replace h : B_M_joinedAhead_2 N  (F_M_joinedAhead_2 N  x0 x1 x2 n) x0 x1 x2 x3 S = some r := h
    have hrec2 := ih
    generalize F_M_joinedAhead_2 N  x0 x1 x2 n = rec2 at h hrec2
    unfold B_M_joinedAhead_2 at h
    refine pE_jump 2 (pc' := 5) (ls' := [some (.ref x0), some (.int x1), some (.int x2), some (.int x3)]) (st' := [.int 42, .int x3]) (fun _ => rfl) ?_
    refine pE_br (42 ≤ x3) rfl rfl (fun c4 => ?_) (fun c4 => ?_)
    · rw [if_pos c4] at h
      refine pE_weak [none, none, none, none] trivial ?_
      exact f_M_joinedAhead_31 sp d N S _ h
    · rw [if_neg c4] at h
      refine pE_jump 1 (pc' := 9) (ls' := [some (.ref x0), some (.int x1), some (.int x2), some (.int x3)]) (st' := [.ref x0]) (fun _ => rfl) ?_
      obtain ⟨oq1, hq1, h⟩ := obind h
      cases oq1 with
      | none => cases h
      | some q1 =>
        try dsimp only at h
        refine pE_gfS rfl rfl hq1 ?_
        refine pE_jump 1 (pc' := 13) (ls' := [some (.ref x0), some (.int x1), some (.int x2), some (.int x3)]) (st' := [.int x3, .ref q1]) (fun _ => rfl) ?_
        obtain ⟨v2, hv2, h⟩ := obind h
        refine pE_aI rfl rfl hv2 ?_
        refine pE_jump 5 (pc' := 20) (ls' := [some (.ref x0), some (.int x1), some (.int x2), some (.int x3)]) (st' := [.int ((6 * x1) + x2), .int v2]) (fun _ => rfl) ?_
        refine pE_br (¬ v2 = ((6 * x1) + x2)) rfl rfl (fun c3 => ?_) (fun c3 => ?_)
        · rw [if_neg c3] at h
          refine pE_jump 2 (pc' := 2) (ls' := [some (.ref x0), some (.int x1), some (.int x2), some (.int (x3 + 1))]) (st' := []) (fun _ => rfl) ?_
          exact hrec2 (x3 + 1) S _ h
        · have c3 := Decidable.not_not.mp c3
          rw [if_pos c3] at h
          refine pE_weak [none, none, none, some (.int x3)] ⟨rfl, trivial⟩ ?_
          exact f_M_joinedAhead_23 sp d N x3 S _ h
def F_M_joinedAhead (N : Nat) (S : pm_S) (a : Nat) (p0 : Int32) (p1 : Int32) : Option (Int32 × pm_S) :=
    if rcv S a 11 = true then
    (F_M_joinedAhead_2 N a p0 p1 N 0 S)
    else none
theorem g_M_joinedAhead {N : Nat} {S : pm_S} {a : Nat} {p0 : Int32} {p1 : Int32} {r : (Int32 × pm_S)} (h : F_M_joinedAhead N S a p0 p1 = some r) : rcv S a 11 = true := by
  unfold F_M_joinedAhead at h
  by_cases c : rcv S a 11 = true
  · exact c
  · rw [if_neg c] at h; cases h
set_option maxHeartbeats 4000000 in
set_option maxRecDepth 20000 in
theorem f_M_joinedAhead (sp : pm_I → List Value → pm_S → pm_O → Prop) (d N : Nat) (S : pm_S) (a : Nat) (p0 : Int32) (p1 : Int32) (r : (Int32 × pm_S)) (h : F_M_joinedAhead N S a p0 p1 = some r) : pm_rel pG sp (d + 1) mi_M_joinedAhead [.ref a, .int p0, .int p1] S (some (.int r.1), r.2) := by
  have hg := g_M_joinedAhead h
  unfold F_M_joinedAhead at h
  rw [if_pos hg] at h
  refine pE_rel (d := d + 0) ?_
  show pmE pG _ mi_M_joinedAhead 0 [some (.ref a), some (.int p0), some (.int p1), none] [] S _
  refine pE_jump 2 (pc' := 2) (ls' := [some (.ref a), some (.int p0), some (.int p1), some (.int 0)]) (st' := []) (fun _ => rfl) ?_
  exact f_M_joinedAhead_2 sp d N a p0 p1 N 0 S _ h
def F_M_metresAt_192 (N : Nat)  (t0 : Int32) (t1 : Int32) (S : pm_S) : Option (Int32 × pm_S) :=
    some (t1 + t0, S)
set_option maxHeartbeats 4000000 in
set_option maxRecDepth 20000 in
theorem f_M_metresAt_192 (sp : pm_I → List Value → pm_S → pm_O → Prop) (d N : Nat)  (t0 : Int32) (t1 : Int32) (S : pm_S)  (r : (Int32 × pm_S)) (h : F_M_metresAt_192 N  t0 t1 S = some r) : pmE pG (pm_rel pG sp (d + 3)) mi_M_metresAt 192 [none, none, none, none, none, none, none, none, none, none, none] [.int t0, .int t1] S (some (.int r.1), r.2) := by
  unfold F_M_metresAt_192 at h
  refine pE_jump 1 (pc' := 193) (ls' := [none, none, none, none, none, none, none, none, none, none, none]) (st' := [.int (t1 + t0)]) (fun _ => rfl) ?_
  cases h
  exact pE_ret rfl rfl rfl
def F_M_metresAt_191 (N : Nat)  (t0 : Int32) (S : pm_S) : Option (Int32 × pm_S) :=
    F_M_metresAt_192 N 0 t0 S
set_option maxHeartbeats 4000000 in
set_option maxRecDepth 20000 in
theorem f_M_metresAt_191 (sp : pm_I → List Value → pm_S → pm_O → Prop) (d N : Nat)  (t0 : Int32) (S : pm_S)  (r : (Int32 × pm_S)) (h : F_M_metresAt_191 N  t0 S = some r) : pmE pG (pm_rel pG sp (d + 3)) mi_M_metresAt 191 [none, none, none, none, none, none, none, none, none, none, none] [.int t0] S (some (.int r.1), r.2) := by
  unfold F_M_metresAt_191 at h
  refine pE_jump 1 (pc' := 192) (ls' := [none, none, none, none, none, none, none, none, none, none, none]) (st' := [.int 0, .int t0]) (fun _ => rfl) ?_
  exact f_M_metresAt_192 sp d N 0 t0 S _ h
def F_M_metresAt_168 (N : Nat)  (x0 : Nat) (x3 : Int32) (x6 : Int32) (x9 : Int32) (S : pm_S) : Option (Int32 × pm_S) :=
    if x3 = 0 then
    ((oR S x0 11 27).bind fun oq11 => match oq11 with
    | none => none
    | some q11 =>
    (aI [0, 6] S q11 x9).bind fun v12 =>
    if v12 = (-1) then
    F_M_metresAt_191 N (4 * x6) S
    else
    F_M_metresAt_192 N 1 (4 * x6) S)
    else
    F_M_metresAt_191 N (4 * x6) S
set_option maxHeartbeats 4000000 in
set_option maxRecDepth 20000 in
theorem f_M_metresAt_168 (sp : pm_I → List Value → pm_S → pm_O → Prop) (d N : Nat)  (x0 : Nat) (x3 : Int32) (x6 : Int32) (x9 : Int32) (S : pm_S)  (r : (Int32 × pm_S)) (h : F_M_metresAt_168 N  x0 x3 x6 x9 S = some r) : pmE pG (pm_rel pG sp (d + 3)) mi_M_metresAt 168 [some (.ref x0), none, none, some (.int x3), none, none, some (.int x6), none, none, some (.int x9), none] [] S (some (.int r.1), r.2) := by
  unfold F_M_metresAt_168 at h
  refine pE_jump 4 (pc' := 173) (ls' := [some (.ref x0), none, none, some (.int x3), none, none, some (.int x6), none, none, some (.int x9), none]) (st' := [.int x3, .int (4 * x6)]) (fun _ => rfl) ?_
  refine pE_br (¬ x3 = 0) rfl rfl (fun c14 => ?_) (fun c14 => ?_)
  · rw [if_neg c14] at h
    refine pE_weak [none, none, none, none, none, none, none, none, none, none, none] trivial ?_
    exact f_M_metresAt_191 sp d N (4 * x6) S _ h
  · have c14 := Decidable.not_not.mp c14
    rw [if_pos c14] at h
    refine pE_jump 1 (pc' := 177) (ls' := [some (.ref x0), none, none, some (.int x3), none, none, some (.int x6), none, none, some (.int x9), none]) (st' := [.ref x0, .int (4 * x6)]) (fun _ => rfl) ?_
    obtain ⟨oq11, hq11, h⟩ := obind h
    cases oq11 with
    | none => cases h
    | some q11 =>
      try dsimp only at h
      refine pE_gfS rfl rfl hq11 ?_
      refine pE_jump 1 (pc' := 182) (ls' := [some (.ref x0), none, none, some (.int x3), none, none, some (.int x6), none, none, some (.int x9), none]) (st' := [.int x9, .ref q11, .int (4 * x6)]) (fun _ => rfl) ?_
      obtain ⟨v12, hv12, h⟩ := obind h
      refine pE_aI rfl rfl hv12 ?_
      refine pE_jump 1 (pc' := 184) (ls' := [some (.ref x0), none, none, some (.int x3), none, none, some (.int x6), none, none, some (.int x9), none]) (st' := [.int (-1), .int v12, .int (4 * x6)]) (fun _ => rfl) ?_
      refine pE_br (v12 = (-1)) rfl rfl (fun c13 => ?_) (fun c13 => ?_)
      · rw [if_pos c13] at h
        refine pE_weak [none, none, none, none, none, none, none, none, none, none, none] trivial ?_
        exact f_M_metresAt_191 sp d N (4 * x6) S _ h
      · rw [if_neg c13] at h
        refine pE_jump 2 (pc' := 192) (ls' := [some (.ref x0), none, none, some (.int x3), none, none, some (.int x6), none, none, some (.int x9), none]) (st' := [.int 1, .int (4 * x6)]) (fun _ => rfl) ?_
        refine pE_weak [none, none, none, none, none, none, none, none, none, none, none] trivial ?_
        exact f_M_metresAt_192 sp d N 1 (4 * x6) S _ h
def F_M_metresAt_224 (N : Nat) (rec22 : Int32 → Int32 → Int32 → pm_S → Option (Int32 × pm_S)) (x0 : Nat) (x3 : Int32) (x4 : Int32) (x6 : Int32) (t0 : Int32) (S : pm_S) : Option (Int32 × pm_S) :=
    rec22 x4 t0 x6 S
set_option maxHeartbeats 4000000 in
set_option maxRecDepth 20000 in
theorem f_M_metresAt_224 (sp : pm_I → List Value → pm_S → pm_O → Prop) (d N : Nat) (rec22 : Int32 → Int32 → Int32 → pm_S → Option (Int32 × pm_S)) (x0 : Nat) (x3 : Int32) (x4 : Int32) (x6 : Int32) (t0 : Int32) (S : pm_S) (hrec22 : ∀ (y1 : Int32) (y2 : Int32) (y3 : Int32) (U : pm_S) (r : (Int32 × pm_S)), rec22 y1 y2 y3 U = some r → pmE pG (pm_rel pG sp (d + 3)) mi_M_metresAt 22 [some (.ref x0), none, none, some (.int x3), some (.int y1), some (.int y2), some (.int y3), none, none, none, none] [] U (some (.int r.1), r.2)) (r : (Int32 × pm_S)) (h : F_M_metresAt_224 N rec22 x0 x3 x4 x6 t0 S = some r) : pmE pG (pm_rel pG sp (d + 3)) mi_M_metresAt 224 [some (.ref x0), none, none, some (.int x3), some (.int x4), none, some (.int x6), none, none, none, none] [.int t0] S (some (.int r.1), r.2) := by
  unfold F_M_metresAt_224 at h
  refine pE_jump 2 (pc' := 22) (ls' := [some (.ref x0), none, none, some (.int x3), some (.int x4), some (.int t0), some (.int x6), none, none, none, none]) (st' := []) (fun _ => rfl) ?_
  exact hrec22 x4 t0 x6 S _ h
def F_M_metresAt_160 (N : Nat) (rec22 : Int32 → Int32 → Int32 → pm_S → Option (Int32 × pm_S)) (x0 : Nat) (x3 : Int32) (x6 : Int32) (x9 : Int32) (t0 : Int32) (S : pm_S) : Option (Int32 × pm_S) :=
    if t0 = (-1) then
    F_M_metresAt_168 N x0 x3 x6 x9 S
    else
    (if x3 = 0 then
    F_M_metresAt_224 N rec22 x0 x3 (t0 / 6) x6 (t0 - t0 / 6 * 6) S
    else
    ((F_M_cameAs N S x0 (t0 / 6) (t0 - t0 / 6 * 6)).bind fun (v16, S15) =>
    F_M_metresAt_224 N rec22 x0 x3 (t0 / 6) x6 v16 S15))
set_option maxHeartbeats 4000000 in
set_option maxRecDepth 20000 in
theorem f_M_metresAt_160 (sp : pm_I → List Value → pm_S → pm_O → Prop) (d N : Nat) (rec22 : Int32 → Int32 → Int32 → pm_S → Option (Int32 × pm_S)) (x0 : Nat) (x3 : Int32) (x6 : Int32) (x9 : Int32) (t0 : Int32) (S : pm_S) (hrec22 : ∀ (y1 : Int32) (y2 : Int32) (y3 : Int32) (U : pm_S) (r : (Int32 × pm_S)), rec22 y1 y2 y3 U = some r → pmE pG (pm_rel pG sp (d + 3)) mi_M_metresAt 22 [some (.ref x0), none, none, some (.int x3), some (.int y1), some (.int y2), some (.int y3), none, none, none, none] [] U (some (.int r.1), r.2)) (r : (Int32 × pm_S)) (h : F_M_metresAt_160 N rec22 x0 x3 x6 x9 t0 S = some r) : pmE pG (pm_rel pG sp (d + 3)) mi_M_metresAt 160 [some (.ref x0), none, none, some (.int x3), none, none, some (.int x6), none, none, some (.int x9), none] [.int t0] S (some (.int r.1), r.2) := by
  unfold F_M_metresAt_160 at h
  refine pE_jump 3 (pc' := 165) (ls' := [some (.ref x0), none, none, some (.int x3), none, none, some (.int x6), none, none, some (.int x9), some (.int t0)]) (st' := [.int (-1), .int t0]) (fun _ => rfl) ?_
  refine pE_br (¬ t0 = (-1)) rfl rfl (fun c18 => ?_) (fun c18 => ?_)
  · rw [if_neg c18] at h
    refine pE_jump 2 (pc' := 198) (ls' := [some (.ref x0), none, none, some (.int x3), none, none, some (.int x6), none, none, some (.int x9), some (.int t0)]) (st' := [.int 6, .int t0]) (fun _ => rfl) ?_
    refine pE_jump 1 (pc' := 199) (ls' := [some (.ref x0), none, none, some (.int x3), none, none, some (.int x6), none, none, some (.int x9), some (.int t0)]) (st' := [.int (t0 / 6)]) (fun _ => rfl) ?_
    refine pE_jump 2 (pc' := 202) (ls' := [some (.ref x0), none, none, some (.int x3), some (.int (t0 / 6)), none, some (.int x6), none, none, some (.int x9), some (.int t0)]) (st' := [.int x3]) (fun _ => rfl) ?_
    refine pE_br (¬ x3 = 0) rfl rfl (fun c17 => ?_) (fun c17 => ?_)
    · rw [if_neg c17] at h
      refine pE_jump 4 (pc' := 220) (ls' := [some (.ref x0), none, none, some (.int x3), some (.int (t0 / 6)), none, some (.int x6), none, none, some (.int x9), some (.int t0)]) (st' := [.int 6, .int t0, .int (t0 / 6), .ref x0]) (fun _ => rfl) ?_
      refine pE_jump 1 (pc' := 221) (ls' := [some (.ref x0), none, none, some (.int x3), some (.int (t0 / 6)), none, some (.int x6), none, none, some (.int x9), some (.int t0)]) (st' := [.int (t0 - t0 / 6 * 6), .int (t0 / 6), .ref x0]) (fun _ => rfl) ?_
      obtain ⟨⟨v16, S15⟩, hv16, h⟩ := obind h
      try dsimp only at h
      refine pE_iv (Bs := [.int (t0 / 6), .int (t0 - t0 / 6 * 6)]) (st := []) 1 rfl (Or.inl ⟨rfl, rfl⟩) rfl rfl (Nat.le_of_ble_eq_true rfl) (Nat.le_of_ble_eq_true rfl) (g_M_cameAs hv16) (f_M_cameAs sp (d + 2) N S x0 (t0 / 6) (t0 - t0 / 6 * 6) _ hv16) ?_
      refine pE_weak [some (.ref x0), none, none, some (.int x3), some (.int (t0 / 6)), none, some (.int x6), none, none, none, none] ⟨rfl, ⟨rfl, ⟨rfl, ⟨rfl, trivial⟩⟩⟩⟩ ?_
      exact f_M_metresAt_224 sp d N rec22 x0 x3 (t0 / 6) x6 v16 S15 hrec22 _ h
    · have c17 := Decidable.not_not.mp c17
      rw [if_pos c17] at h
      refine pE_jump 2 (pc' := 209) (ls' := [some (.ref x0), none, none, some (.int x3), some (.int (t0 / 6)), none, some (.int x6), none, none, some (.int x9), some (.int t0)]) (st' := [.int 6, .int t0]) (fun _ => rfl) ?_
      refine pE_jump 1 (pc' := 210) (ls' := [some (.ref x0), none, none, some (.int x3), some (.int (t0 / 6)), none, some (.int x6), none, none, some (.int x9), some (.int t0)]) (st' := [.int (t0 - t0 / 6 * 6)]) (fun _ => rfl) ?_
      refine pE_jump 1 (pc' := 224) (ls' := [some (.ref x0), none, none, some (.int x3), some (.int (t0 / 6)), none, some (.int x6), none, none, some (.int x9), some (.int t0)]) (st' := [.int (t0 - t0 / 6 * 6)]) (fun _ => rfl) ?_
      refine pE_weak [some (.ref x0), none, none, some (.int x3), some (.int (t0 / 6)), none, some (.int x6), none, none, none, none] ⟨rfl, ⟨rfl, ⟨rfl, ⟨rfl, trivial⟩⟩⟩⟩ ?_
      exact f_M_metresAt_224 sp d N rec22 x0 x3 (t0 / 6) x6 (t0 - t0 / 6 * 6) S hrec22 _ h
  · have c18 := Decidable.not_not.mp c18
    rw [if_pos c18] at h
    refine pE_weak [some (.ref x0), none, none, some (.int x3), none, none, some (.int x6), none, none, some (.int x9), none] ⟨rfl, ⟨rfl, ⟨rfl, ⟨rfl, trivial⟩⟩⟩⟩ ?_
    exact f_M_metresAt_168 sp d N x0 x3 x6 x9 S _ h
def F_M_metresAt_103 (N : Nat)  (t0 : Int32) (t1 : Int32) (t2 : Int32) (S : pm_S) : Option (Int32 × pm_S) :=
    some (t2 * (t1 + t0), S)
set_option maxHeartbeats 4000000 in
set_option maxRecDepth 20000 in
theorem f_M_metresAt_103 (sp : pm_I → List Value → pm_S → pm_O → Prop) (d N : Nat)  (t0 : Int32) (t1 : Int32) (t2 : Int32) (S : pm_S)  (r : (Int32 × pm_S)) (h : F_M_metresAt_103 N  t0 t1 t2 S = some r) : pmE pG (pm_rel pG sp (d + 3)) mi_M_metresAt 103 [none, none, none, none, none, none, none, none, none, none, none] [.int t0, .int t1, .int t2] S (some (.int r.1), r.2) := by
  unfold F_M_metresAt_103 at h
  refine pE_jump 2 (pc' := 105) (ls' := [none, none, none, none, none, none, none, none, none, none, none]) (st' := [.int (t2 * (t1 + t0))]) (fun _ => rfl) ?_
  cases h
  exact pE_ret rfl rfl rfl
def F_M_metresAt_82 (N : Nat)  (x0 : Nat) (x3 : Int32) (x4 : Int32) (x6 : Int32) (x8 : Int32) (S : pm_S) : Option (Int32 × pm_S) :=
    if x3 = 0 then
    F_M_metresAt_103 N x8 x6 4 S
    else
    ((F_M_longOf N S x0 x4).bind fun (v23, S22) =>
    F_M_metresAt_103 N (v23 - x8) x6 4 S22)
set_option maxHeartbeats 4000000 in
set_option maxRecDepth 20000 in
theorem f_M_metresAt_82 (sp : pm_I → List Value → pm_S → pm_O → Prop) (d N : Nat)  (x0 : Nat) (x3 : Int32) (x4 : Int32) (x6 : Int32) (x8 : Int32) (S : pm_S)  (r : (Int32 × pm_S)) (h : F_M_metresAt_82 N  x0 x3 x4 x6 x8 S = some r) : pmE pG (pm_rel pG sp (d + 3)) mi_M_metresAt 82 [some (.ref x0), none, none, some (.int x3), some (.int x4), none, some (.int x6), none, some (.int x8), none, none] [] S (some (.int r.1), r.2) := by
  unfold F_M_metresAt_82 at h
  refine pE_jump 3 (pc' := 86) (ls' := [some (.ref x0), none, none, some (.int x3), some (.int x4), none, some (.int x6), none, some (.int x8), none, none]) (st' := [.int x3, .int x6, .int 4]) (fun _ => rfl) ?_
  refine pE_br (¬ x3 = 0) rfl rfl (fun c24 => ?_) (fun c24 => ?_)
  · rw [if_neg c24] at h
    refine pE_jump 2 (pc' := 97) (ls' := [some (.ref x0), none, none, some (.int x3), some (.int x4), none, some (.int x6), none, some (.int x8), none, none]) (st' := [.int x4, .ref x0, .int x6, .int 4]) (fun _ => rfl) ?_
    obtain ⟨⟨v23, S22⟩, hv23, h⟩ := obind h
    try dsimp only at h
    refine pE_iv (Bs := [.int x4]) (st := [.int x6, .int 4]) 1 rfl (Or.inl ⟨rfl, rfl⟩) rfl rfl (Nat.le_of_ble_eq_true rfl) (Nat.le_of_ble_eq_true rfl) (g_M_longOf hv23) (f_M_longOf sp (d + 2) N S x0 x4 _ hv23) ?_
    refine pE_jump 2 (pc' := 103) (ls' := [some (.ref x0), none, none, some (.int x3), some (.int x4), none, some (.int x6), none, some (.int x8), none, none]) (st' := [.int (v23 - x8), .int x6, .int 4]) (fun _ => rfl) ?_
    refine pE_weak [none, none, none, none, none, none, none, none, none, none, none] trivial ?_
    exact f_M_metresAt_103 sp d N (v23 - x8) x6 4 S22 _ h
  · have c24 := Decidable.not_not.mp c24
    rw [if_pos c24] at h
    refine pE_jump 2 (pc' := 103) (ls' := [some (.ref x0), none, none, some (.int x3), some (.int x4), none, some (.int x6), none, some (.int x8), none, none]) (st' := [.int x8, .int x6, .int 4]) (fun _ => rfl) ?_
    refine pE_weak [none, none, none, none, none, none, none, none, none, none, none] trivial ?_
    exact f_M_metresAt_103 sp d N x8 x6 4 S _ h
def F_M_metresAt_60 (N : Nat)  (t0 : Int32) (t1 : Int32) (t2 : Int32) (S : pm_S) : Option (Int32 × pm_S) :=
    some ((t2 * (t1 + t0)) + 2, S)
set_option maxHeartbeats 4000000 in
set_option maxRecDepth 20000 in
theorem f_M_metresAt_60 (sp : pm_I → List Value → pm_S → pm_O → Prop) (d N : Nat)  (t0 : Int32) (t1 : Int32) (t2 : Int32) (S : pm_S)  (r : (Int32 × pm_S)) (h : F_M_metresAt_60 N  t0 t1 t2 S = some r) : pmE pG (pm_rel pG sp (d + 3)) mi_M_metresAt 60 [none, none, none, none, none, none, none, none, none, none, none] [.int t0, .int t1, .int t2] S (some (.int r.1), r.2) := by
  unfold F_M_metresAt_60 at h
  refine pE_jump 4 (pc' := 64) (ls' := [none, none, none, none, none, none, none, none, none, none, none]) (st' := [.int ((t2 * (t1 + t0)) + 2)]) (fun _ => rfl) ?_
  cases h
  exact pE_ret rfl rfl rfl
def F_M_metresAt_39 (N : Nat)  (x0 : Nat) (x3 : Int32) (x4 : Int32) (x6 : Int32) (x7 : Int32) (S : pm_S) : Option (Int32 × pm_S) :=
    if x3 = 0 then
    F_M_metresAt_60 N x7 x6 4 S
    else
    ((F_M_longOf N S x0 x4).bind fun (v27, S26) =>
    F_M_metresAt_60 N (v27 - x7) x6 4 S26)
set_option maxHeartbeats 4000000 in
set_option maxRecDepth 20000 in
theorem f_M_metresAt_39 (sp : pm_I → List Value → pm_S → pm_O → Prop) (d N : Nat)  (x0 : Nat) (x3 : Int32) (x4 : Int32) (x6 : Int32) (x7 : Int32) (S : pm_S)  (r : (Int32 × pm_S)) (h : F_M_metresAt_39 N  x0 x3 x4 x6 x7 S = some r) : pmE pG (pm_rel pG sp (d + 3)) mi_M_metresAt 39 [some (.ref x0), none, none, some (.int x3), some (.int x4), none, some (.int x6), some (.int x7), none, none, none] [] S (some (.int r.1), r.2) := by
  unfold F_M_metresAt_39 at h
  refine pE_jump 3 (pc' := 43) (ls' := [some (.ref x0), none, none, some (.int x3), some (.int x4), none, some (.int x6), some (.int x7), none, none, none]) (st' := [.int x3, .int x6, .int 4]) (fun _ => rfl) ?_
  refine pE_br (¬ x3 = 0) rfl rfl (fun c28 => ?_) (fun c28 => ?_)
  · rw [if_neg c28] at h
    refine pE_jump 2 (pc' := 54) (ls' := [some (.ref x0), none, none, some (.int x3), some (.int x4), none, some (.int x6), some (.int x7), none, none, none]) (st' := [.int x4, .ref x0, .int x6, .int 4]) (fun _ => rfl) ?_
    obtain ⟨⟨v27, S26⟩, hv27, h⟩ := obind h
    try dsimp only at h
    refine pE_iv (Bs := [.int x4]) (st := [.int x6, .int 4]) 1 rfl (Or.inl ⟨rfl, rfl⟩) rfl rfl (Nat.le_of_ble_eq_true rfl) (Nat.le_of_ble_eq_true rfl) (g_M_longOf hv27) (f_M_longOf sp (d + 2) N S x0 x4 _ hv27) ?_
    refine pE_jump 2 (pc' := 60) (ls' := [some (.ref x0), none, none, some (.int x3), some (.int x4), none, some (.int x6), some (.int x7), none, none, none]) (st' := [.int (v27 - x7), .int x6, .int 4]) (fun _ => rfl) ?_
    refine pE_weak [none, none, none, none, none, none, none, none, none, none, none] trivial ?_
    exact f_M_metresAt_60 sp d N (v27 - x7) x6 4 S26 _ h
  · have c28 := Decidable.not_not.mp c28
    rw [if_pos c28] at h
    refine pE_jump 2 (pc' := 60) (ls' := [some (.ref x0), none, none, some (.int x3), some (.int x4), none, some (.int x6), some (.int x7), none, none, none]) (st' := [.int x7, .int x6, .int 4]) (fun _ => rfl) ?_
    refine pE_weak [none, none, none, none, none, none, none, none, none, none, none] trivial ?_
    exact f_M_metresAt_60 sp d N x7 x6 4 S _ h
def B_M_metresAt_22 (N : Nat)  (rec22 : Int32 → Int32 → Int32 → pm_S → Option (Int32 × pm_S)) (x0 : Nat) (x3 : Int32) (x4 : Int32) (x5 : Int32) (x6 : Int32) (S : pm_S) : Option (Int32 × pm_S) :=
    (F_M_firstTouch N S x0 x4 x5 x3).bind fun (v2, S1) =>
    if v2 = (-1) then
    ((F_M_firstBreak N S1 x0 x4 x5 x3).bind fun (v4, S3) =>
    if v4 = (-1) then
    ((F_M_longOf N S3 x0 x4).bind fun (v6, S5) =>
    (oR S5 x0 11 28).bind fun oq7 => match oq7 with
    | none => none
    | some q7 =>
    (aI [0, 6] S5 q7 ((6 * x4) + x5)).bind fun v8 =>
    if x3 = 0 then
    ((oR S5 x0 11 26).bind fun oq9 => match oq9 with
    | none => none
    | some q9 =>
    (aI [0, 6] S5 q9 ((6 * x4) + v8)).bind fun v10 =>
    F_M_metresAt_160 N rec22 x0 x3 (x6 + v6) ((6 * x4) + v8) v10 S5)
    else
    ((F_M_joinedAhead N S5 x0 x4 x5).bind fun (v20, S19) =>
    F_M_metresAt_160 N rec22 x0 x3 (x6 + v6) ((6 * x4) + v8) v20 S19))
    else
    F_M_metresAt_82 N x0 x3 x4 x6 v4 S3)
    else
    F_M_metresAt_39 N x0 x3 x4 x6 v2 S1
def F_M_metresAt_22 (N : Nat)  (x0 : Nat) (x3 : Int32) : Nat → Int32 → Int32 → Int32 → pm_S → Option (Int32 × pm_S)
  | 0 => fun _ _ _ _ => none
  | n + 1 => fun x4 x5 x6 S => B_M_metresAt_22 N  (F_M_metresAt_22 N  x0 x3 n) x0 x3 x4 x5 x6 S
set_option maxHeartbeats 4000000 in
set_option maxRecDepth 20000 in
theorem f_M_metresAt_22 (sp : pm_I → List Value → pm_S → pm_O → Prop) (d N : Nat)  (x0 : Nat) (x3 : Int32)  : ∀ (n : Nat) (x4 : Int32) (x5 : Int32) (x6 : Int32) (S : pm_S) (r : (Int32 × pm_S)), F_M_metresAt_22 N  x0 x3 n x4 x5 x6 S = some r → pmE pG (pm_rel pG sp (d + 3)) mi_M_metresAt 22 [some (.ref x0), none, none, some (.int x3), some (.int x4), some (.int x5), some (.int x6), none, none, none, none] [] S (some (.int r.1), r.2) := by
  intro n
  induction n with
  | zero =>
    intro x4 x5 x6 S r h
    cases h
  | succ n ih =>
    intro x4 x5 x6 S r h
    replace h : B_M_metresAt_22 N  (F_M_metresAt_22 N  x0 x3 n) x0 x3 x4 x5 x6 S = some r := h
    have hrec22 := ih
    generalize F_M_metresAt_22 N  x0 x3 n = rec22 at h hrec22
    unfold B_M_metresAt_22 at h
    refine pE_jump 4 (pc' := 28) (ls' := [some (.ref x0), none, none, some (.int x3), some (.int x4), some (.int x5), some (.int x6), none, none, none, none]) (st' := [.int x3, .int x5, .int x4, .ref x0]) (fun _ => rfl) ?_
    obtain ⟨⟨v2, S1⟩, hv2, h⟩ := obind h
    try dsimp only at h
    refine pE_iv (Bs := [.int x4, .int x5, .int x3]) (st := []) 1 rfl (Or.inl ⟨rfl, rfl⟩) rfl rfl (Nat.le_of_ble_eq_true rfl) (Nat.le_of_ble_eq_true rfl) (g_M_firstTouch hv2) (f_M_firstTouch sp d N S x0 x4 x5 x3 _ hv2) ?_
    refine pE_jump 3 (pc' := 36) (ls' := [some (.ref x0), none, none, some (.int x3), some (.int x4), some (.int x5), some (.int x6), some (.int v2), none, none, none]) (st' := [.int (-1), .int v2]) (fun _ => rfl) ?_
    refine pE_br (v2 = (-1)) rfl rfl (fun c29 => ?_) (fun c29 => ?_)
    · rw [if_pos c29] at h
      refine pE_jump 4 (pc' := 71) (ls' := [some (.ref x0), none, none, some (.int x3), some (.int x4), some (.int x5), some (.int x6), some (.int v2), none, none, none]) (st' := [.int x3, .int x5, .int x4, .ref x0]) (fun _ => rfl) ?_
      obtain ⟨⟨v4, S3⟩, hv4, h⟩ := obind h
      try dsimp only at h
      refine pE_iv (Bs := [.int x4, .int x5, .int x3]) (st := []) 1 rfl (Or.inl ⟨rfl, rfl⟩) rfl rfl (Nat.le_of_ble_eq_true rfl) (Nat.le_of_ble_eq_true rfl) (g_M_firstBreak hv4) (f_M_firstBreak sp d N S1 x0 x4 x5 x3 _ hv4) ?_
      refine pE_jump 3 (pc' := 79) (ls' := [some (.ref x0), none, none, some (.int x3), some (.int x4), some (.int x5), some (.int x6), some (.int v2), some (.int v4), none, none]) (st' := [.int (-1), .int v4]) (fun _ => rfl) ?_
      refine pE_br (v4 = (-1)) rfl rfl (fun c25 => ?_) (fun c25 => ?_)
      · rw [if_pos c25] at h
        refine pE_jump 3 (pc' := 111) (ls' := [some (.ref x0), none, none, some (.int x3), some (.int x4), some (.int x5), some (.int x6), some (.int v2), some (.int v4), none, none]) (st' := [.int x4, .ref x0, .int x6]) (fun _ => rfl) ?_
        obtain ⟨⟨v6, S5⟩, hv6, h⟩ := obind h
        try dsimp only at h
        refine pE_iv (Bs := [.int x4]) (st := [.int x6]) 1 rfl (Or.inl ⟨rfl, rfl⟩) rfl rfl (Nat.le_of_ble_eq_true rfl) (Nat.le_of_ble_eq_true rfl) (g_M_longOf hv6) (f_M_longOf sp (d + 2) N S3 x0 x4 _ hv6) ?_
        refine pE_jump 6 (pc' := 123) (ls' := [some (.ref x0), none, none, some (.int x3), some (.int x4), some (.int x5), some (.int (x6 + v6)), some (.int v2), some (.int v4), none, none]) (st' := [.ref x0, .int (6 * x4)]) (fun _ => rfl) ?_
        obtain ⟨oq7, hq7, h⟩ := obind h
        cases oq7 with
        | none => cases h
        | some q7 =>
          try dsimp only at h
          refine pE_gfS rfl rfl hq7 ?_
          refine pE_jump 5 (pc' := 134) (ls' := [some (.ref x0), none, none, some (.int x3), some (.int x4), some (.int x5), some (.int (x6 + v6)), some (.int v2), some (.int v4), none, none]) (st' := [.int ((6 * x4) + x5), .ref q7, .int (6 * x4)]) (fun _ => rfl) ?_
          obtain ⟨v8, hv8, h⟩ := obind h
          refine pE_aI rfl rfl hv8 ?_
          refine pE_jump 3 (pc' := 139) (ls' := [some (.ref x0), none, none, some (.int x3), some (.int x4), some (.int x5), some (.int (x6 + v6)), some (.int v2), some (.int v4), some (.int ((6 * x4) + v8)), none]) (st' := [.int x3]) (fun _ => rfl) ?_
          refine pE_br (¬ x3 = 0) rfl rfl (fun c21 => ?_) (fun c21 => ?_)
          · rw [if_neg c21] at h
            refine pE_jump 3 (pc' := 157) (ls' := [some (.ref x0), none, none, some (.int x3), some (.int x4), some (.int x5), some (.int (x6 + v6)), some (.int v2), some (.int v4), some (.int ((6 * x4) + v8)), none]) (st' := [.int x5, .int x4, .ref x0]) (fun _ => rfl) ?_
            obtain ⟨⟨v20, S19⟩, hv20, h⟩ := obind h
            try dsimp only at h
            refine pE_iv (Bs := [.int x4, .int x5]) (st := []) 1 rfl (Or.inl ⟨rfl, rfl⟩) rfl rfl (Nat.le_of_ble_eq_true rfl) (Nat.le_of_ble_eq_true rfl) (g_M_joinedAhead hv20) (f_M_joinedAhead sp (d + 2) N S5 x0 x4 x5 _ hv20) ?_
            refine pE_weak [some (.ref x0), none, none, some (.int x3), none, none, some (.int (x6 + v6)), none, none, some (.int ((6 * x4) + v8)), none] ⟨rfl, ⟨rfl, ⟨rfl, ⟨rfl, trivial⟩⟩⟩⟩ ?_
            exact f_M_metresAt_160 sp d N rec22 x0 x3 (x6 + v6) ((6 * x4) + v8) v20 S19 hrec22 _ h
          · have c21 := Decidable.not_not.mp c21
            rw [if_pos c21] at h
            refine pE_jump 1 (pc' := 143) (ls' := [some (.ref x0), none, none, some (.int x3), some (.int x4), some (.int x5), some (.int (x6 + v6)), some (.int v2), some (.int v4), some (.int ((6 * x4) + v8)), none]) (st' := [.ref x0]) (fun _ => rfl) ?_
            obtain ⟨oq9, hq9, h⟩ := obind h
            cases oq9 with
            | none => cases h
            | some q9 =>
              try dsimp only at h
              refine pE_gfS rfl rfl hq9 ?_
              refine pE_jump 1 (pc' := 148) (ls' := [some (.ref x0), none, none, some (.int x3), some (.int x4), some (.int x5), some (.int (x6 + v6)), some (.int v2), some (.int v4), some (.int ((6 * x4) + v8)), none]) (st' := [.int ((6 * x4) + v8), .ref q9]) (fun _ => rfl) ?_
              obtain ⟨v10, hv10, h⟩ := obind h
              refine pE_aI rfl rfl hv10 ?_
              refine pE_jump 1 (pc' := 160) (ls' := [some (.ref x0), none, none, some (.int x3), some (.int x4), some (.int x5), some (.int (x6 + v6)), some (.int v2), some (.int v4), some (.int ((6 * x4) + v8)), none]) (st' := [.int v10]) (fun _ => rfl) ?_
              refine pE_weak [some (.ref x0), none, none, some (.int x3), none, none, some (.int (x6 + v6)), none, none, some (.int ((6 * x4) + v8)), none] ⟨rfl, ⟨rfl, ⟨rfl, ⟨rfl, trivial⟩⟩⟩⟩ ?_
              exact f_M_metresAt_160 sp d N rec22 x0 x3 (x6 + v6) ((6 * x4) + v8) v10 S5 hrec22 _ h
      · rw [if_neg c25] at h
        refine pE_weak [some (.ref x0), none, none, some (.int x3), some (.int x4), none, some (.int x6), none, some (.int v4), none, none] ⟨rfl, ⟨rfl, ⟨rfl, ⟨rfl, ⟨rfl, trivial⟩⟩⟩⟩⟩ ?_
        exact f_M_metresAt_82 sp d N x0 x3 x4 x6 v4 S3 _ h
    · rw [if_neg c29] at h
      refine pE_weak [some (.ref x0), none, none, some (.int x3), some (.int x4), none, some (.int x6), some (.int v2), none, none, none] ⟨rfl, ⟨rfl, ⟨rfl, ⟨rfl, ⟨rfl, trivial⟩⟩⟩⟩⟩ ?_
      exact f_M_metresAt_39 sp d N x0 x3 x4 x6 v2 S1 _ h
def F_M_metresAt_17 (N : Nat)  (x0 : Nat) (x3 : Int32) (x4 : Int32) (t0 : Int32) (S : pm_S) : Option (Int32 × pm_S) :=
    F_M_metresAt_22 N x0 x3 N x4 t0 0 S
set_option maxHeartbeats 4000000 in
set_option maxRecDepth 20000 in
theorem f_M_metresAt_17 (sp : pm_I → List Value → pm_S → pm_O → Prop) (d N : Nat)  (x0 : Nat) (x3 : Int32) (x4 : Int32) (t0 : Int32) (S : pm_S)  (r : (Int32 × pm_S)) (h : F_M_metresAt_17 N  x0 x3 x4 t0 S = some r) : pmE pG (pm_rel pG sp (d + 3)) mi_M_metresAt 17 [some (.ref x0), none, none, some (.int x3), some (.int x4), none, none, none, none, none, none] [.int t0] S (some (.int r.1), r.2) := by
  unfold F_M_metresAt_17 at h
  refine pE_jump 3 (pc' := 22) (ls' := [some (.ref x0), none, none, some (.int x3), some (.int x4), some (.int t0), some (.int 0), none, none, none, none]) (st' := []) (fun _ => rfl) ?_
  exact f_M_metresAt_22 sp d N x0 x3 N x4 t0 0 S _ h
def F_M_metresAt (N : Nat) (S : pm_S) (a : Nat) (p0 : Int32) (p1 : Int32) (p2 : Int32) : Option (Int32 × pm_S) :=
    if rcv S a 11 = true then
    (if p2 = 0 then
    F_M_metresAt_17 N a p2 p0 p1 S
    else
    ((F_M_cameAs N S a p0 p1).bind fun (v31, S30) =>
    F_M_metresAt_17 N a p2 p0 v31 S30))
    else none
theorem g_M_metresAt {N : Nat} {S : pm_S} {a : Nat} {p0 : Int32} {p1 : Int32} {p2 : Int32} {r : (Int32 × pm_S)} (h : F_M_metresAt N S a p0 p1 p2 = some r) : rcv S a 11 = true := by
  unfold F_M_metresAt at h
  by_cases c : rcv S a 11 = true
  · exact c
  · rw [if_neg c] at h; cases h
set_option maxHeartbeats 4000000 in
set_option maxRecDepth 20000 in
theorem f_M_metresAt (sp : pm_I → List Value → pm_S → pm_O → Prop) (d N : Nat) (S : pm_S) (a : Nat) (p0 : Int32) (p1 : Int32) (p2 : Int32) (r : (Int32 × pm_S)) (h : F_M_metresAt N S a p0 p1 p2 = some r) : pm_rel pG sp (d + 4) mi_M_metresAt [.ref a, .int p0, .int p1, .int p2] S (some (.int r.1), r.2) := by
  have hg := g_M_metresAt h
  unfold F_M_metresAt at h
  rw [if_pos hg] at h
  refine pE_rel (d := d + 3) ?_
  show pmE pG _ mi_M_metresAt 0 [some (.ref a), some (.int p0), some (.int p1), some (.int p2), none, none, none, none, none, none, none] [] S _
  refine pE_jump 3 (pc' := 4) (ls' := [some (.ref a), some (.int p0), some (.int p1), some (.int p2), some (.int p0), none, none, none, none, none, none]) (st' := [.int p2]) (fun _ => rfl) ?_
  refine pE_br (¬ p2 = 0) rfl rfl (fun c32 => ?_) (fun c32 => ?_)
  · rw [if_neg c32] at h
    refine pE_jump 3 (pc' := 14) (ls' := [some (.ref a), some (.int p0), some (.int p1), some (.int p2), some (.int p0), none, none, none, none, none, none]) (st' := [.int p1, .int p0, .ref a]) (fun _ => rfl) ?_
    obtain ⟨⟨v31, S30⟩, hv31, h⟩ := obind h
    try dsimp only at h
    refine pE_iv (Bs := [.int p0, .int p1]) (st := []) 1 rfl (Or.inl ⟨rfl, rfl⟩) rfl rfl (Nat.le_of_ble_eq_true rfl) (Nat.le_of_ble_eq_true rfl) (g_M_cameAs hv31) (f_M_cameAs sp (d + 2) N S a p0 p1 _ hv31) ?_
    refine pE_weak [some (.ref a), none, none, some (.int p2), some (.int p0), none, none, none, none, none, none] ⟨rfl, ⟨rfl, ⟨rfl, trivial⟩⟩⟩ ?_
    exact f_M_metresAt_17 sp d N a p2 p0 v31 S30 _ h
  · have c32 := Decidable.not_not.mp c32
    rw [if_pos c32] at h
    refine pE_jump 2 (pc' := 17) (ls' := [some (.ref a), some (.int p0), some (.int p1), some (.int p2), some (.int p0), none, none, none, none, none, none]) (st' := [.int p1]) (fun _ => rfl) ?_
    refine pE_weak [some (.ref a), none, none, some (.int p2), some (.int p0), none, none, none, none, none, none] ⟨rfl, ⟨rfl, ⟨rfl, trivial⟩⟩⟩ ?_
    exact f_M_metresAt_17 sp d N a p2 p0 p1 S _ h
def F_M_metres_34 (N : Nat)   (S : pm_S) : Option (Int32 × pm_S) :=
    some ((-1), S)
set_option maxHeartbeats 4000000 in
set_option maxRecDepth 20000 in
theorem f_M_metres_34 (sp : pm_I → List Value → pm_S → pm_O → Prop) (d N : Nat)   (S : pm_S)  (r : (Int32 × pm_S)) (h : F_M_metres_34 N   S = some r) : pmE pG (pm_rel pG sp (d + 4)) mi_M_metres 34 [none, none, none, none, none, none, none] [] S (some (.int r.1), r.2) := by
  unfold F_M_metres_34 at h
  refine pE_jump 1 (pc' := 35) (ls' := [none, none, none, none, none, none, none]) (st' := [.int (-1)]) (fun _ => rfl) ?_
  cases h
  exact pE_ret rfl rfl rfl
def F_M_metres (N : Nat) (S : pm_S) (a : Nat) (p0 : Int32) (p1 : Int32) (p2 : Int32) (p3 : Int32) (p4 : Int32) (p5 : Int32) : Option (Int32 × pm_S) :=
    if rcv S a 11 = true then
    ((wF S a 11 0 .int (.int 0)).bind fun S1 =>
    (F_M_isWorld N S1 a p0 p1).bind fun (v3, S2) =>
    if v3 = 0 then
    F_M_metres_34 N S2
    else
    ((F_M_isPair N S2 a p0 p3 p4).bind fun (v5, S4) =>
    if v5 = 0 then
    F_M_metres_34 N S4
    else
    ((F_M_isEnd N S4 p5).bind fun (v7, S6) =>
    if v7 = 0 then
    F_M_metres_34 N S6
    else
    ((F_M_lay N S6 a p0 p1 p2).bind fun S8 =>
    (F_M_metresAt N S8 a p3 p4 p5).bind fun (v10, S9) =>
    some (v10, S9)))))
    else none
theorem g_M_metres {N : Nat} {S : pm_S} {a : Nat} {p0 : Int32} {p1 : Int32} {p2 : Int32} {p3 : Int32} {p4 : Int32} {p5 : Int32} {r : (Int32 × pm_S)} (h : F_M_metres N S a p0 p1 p2 p3 p4 p5 = some r) : rcv S a 11 = true := by
  unfold F_M_metres at h
  by_cases c : rcv S a 11 = true
  · exact c
  · rw [if_neg c] at h; cases h
set_option maxHeartbeats 4000000 in
set_option maxRecDepth 20000 in
theorem f_M_metres (sp : pm_I → List Value → pm_S → pm_O → Prop) (d N : Nat) (S : pm_S) (a : Nat) (p0 : Int32) (p1 : Int32) (p2 : Int32) (p3 : Int32) (p4 : Int32) (p5 : Int32) (r : (Int32 × pm_S)) (h : F_M_metres N S a p0 p1 p2 p3 p4 p5 = some r) : pm_rel pG sp (d + 5) mi_M_metres [.ref a, .int p0, .int p1, .int p2, .int p3, .int p4, .int p5] S (some (.int r.1), r.2) := by
  have hg := g_M_metres h
  unfold F_M_metres at h
  rw [if_pos hg] at h
  refine pE_rel (d := d + 4) ?_
  show pmE pG _ mi_M_metres 0 [some (.ref a), some (.int p0), some (.int p1), some (.int p2), some (.int p3), some (.int p4), some (.int p5)] [] S _
  refine pE_jump 2 (pc' := 2) (ls' := [some (.ref a), some (.int p0), some (.int p1), some (.int p2), some (.int p3), some (.int p4), some (.int p5)]) (st' := [.int 0, .ref a]) (fun _ => rfl) ?_
  obtain ⟨S1, hS1, h⟩ := obind h
  refine pE_pf rfl rfl rfl hS1 ?_
  refine pE_jump 3 (pc' := 8) (ls' := [some (.ref a), some (.int p0), some (.int p1), some (.int p2), some (.int p3), some (.int p4), some (.int p5)]) (st' := [.int p1, .int p0, .ref a]) (fun _ => rfl) ?_
  obtain ⟨⟨v3, S2⟩, hv3, h⟩ := obind h
  try dsimp only at h
  refine pE_iv (Bs := [.int p0, .int p1]) (st := []) 1 rfl (Or.inl ⟨rfl, rfl⟩) rfl rfl (Nat.le_of_ble_eq_true rfl) (Nat.le_of_ble_eq_true rfl) (g_M_isWorld hv3) (f_M_isWorld sp (d + 2) N S1 a p0 p1 _ hv3) ?_
  refine pE_br (v3 = 0) rfl rfl (fun c13 => ?_) (fun c13 => ?_)
  · rw [if_pos c13] at h
    refine pE_weak [none, none, none, none, none, none, none] trivial ?_
    exact f_M_metres_34 sp d N S2 _ h
  · rw [if_neg c13] at h
    refine pE_jump 4 (pc' := 20) (ls' := [some (.ref a), some (.int p0), some (.int p1), some (.int p2), some (.int p3), some (.int p4), some (.int p5)]) (st' := [.int p4, .int p3, .int p0, .ref a]) (fun _ => rfl) ?_
    obtain ⟨⟨v5, S4⟩, hv5, h⟩ := obind h
    try dsimp only at h
    refine pE_iv (Bs := [.int p0, .int p3, .int p4]) (st := []) 1 rfl (Or.inl ⟨rfl, rfl⟩) rfl rfl (Nat.le_of_ble_eq_true rfl) (Nat.le_of_ble_eq_true rfl) (g_M_isPair hv5) (f_M_isPair sp (d + 1) N S2 a p0 p3 p4 _ hv5) ?_
    refine pE_br (v5 = 0) rfl rfl (fun c12 => ?_) (fun c12 => ?_)
    · rw [if_pos c12] at h
      refine pE_weak [none, none, none, none, none, none, none] trivial ?_
      exact f_M_metres_34 sp d N S4 _ h
    · rw [if_neg c12] at h
      refine pE_jump 1 (pc' := 28) (ls' := [some (.ref a), some (.int p0), some (.int p1), some (.int p2), some (.int p3), some (.int p4), some (.int p5)]) (st' := [.int p5]) (fun _ => rfl) ?_
      obtain ⟨⟨v7, S6⟩, hv7, h⟩ := obind h
      try dsimp only at h
      refine pE_is (Bs := [.int p5]) (st := []) rfl rfl rfl (Nat.le_of_ble_eq_true rfl) (Nat.le_of_ble_eq_true rfl) (f_M_isEnd sp (d + 2) N S4 p5 _ hv7) ?_
      refine pE_br (¬ v7 = 0) rfl rfl (fun c11 => ?_) (fun c11 => ?_)
      · rw [if_neg c11] at h
        refine pE_jump 4 (pc' := 40) (ls' := [some (.ref a), some (.int p0), some (.int p1), some (.int p2), some (.int p3), some (.int p4), some (.int p5)]) (st' := [.int p2, .int p1, .int p0, .ref a]) (fun _ => rfl) ?_
        obtain ⟨S8, hS8, h⟩ := obind h
        refine pE_iv (Bs := [.int p0, .int p1, .int p2]) (st := []) 1 rfl (Or.inl ⟨rfl, rfl⟩) rfl rfl (Nat.le_of_ble_eq_true rfl) (Nat.le_of_ble_eq_true rfl) (g_M_lay hS8) (f_M_lay sp (d + 1) N S6 a p0 p1 p2 _ hS8) ?_
        refine pE_jump 4 (pc' := 50) (ls' := [some (.ref a), some (.int p0), some (.int p1), some (.int p2), some (.int p3), some (.int p4), some (.int p5)]) (st' := [.int p5, .int p4, .int p3, .ref a]) (fun _ => rfl) ?_
        obtain ⟨⟨v10, S9⟩, hv10, h⟩ := obind h
        try dsimp only at h
        refine pE_iv (Bs := [.int p3, .int p4, .int p5]) (st := []) 1 rfl (Or.inl ⟨rfl, rfl⟩) rfl rfl (Nat.le_of_ble_eq_true rfl) (Nat.le_of_ble_eq_true rfl) (g_M_metresAt hv10) (f_M_metresAt sp d N S8 a p3 p4 p5 _ hv10) ?_
        cases h
        exact pE_ret rfl rfl rfl
      · have c11 := Decidable.not_not.mp c11
        rw [if_pos c11] at h
        refine pE_weak [none, none, none, none, none, none, none] trivial ?_
        exact f_M_metres_34 sp d N S6 _ h
