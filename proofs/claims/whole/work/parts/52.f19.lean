def F_M_spare_40 (N : Nat)   (S : pm_S) : Option (Int32 × pm_S) :=
    some ((-1), S)
set_option maxHeartbeats 4000000 in
set_option maxRecDepth 20000 in
theorem f_M_spare_40 (sp : pm_I → List Value → pm_S → pm_O → Prop) (d N : Nat)   (S : pm_S)  (r : (Int32 × pm_S)) (h : F_M_spare_40 N   S = some r) : pmE pG (pm_rel pG sp (d + 5)) mi_M_spare 40 [none, none, none, none, none, none, none] [] S (some (.int r.1), r.2) := by
  unfold F_M_spare_40 at h
  refine pE_jump 1 (pc' := 41) (ls' := [none, none, none, none, none, none, none]) (st' := [.int (-1)]) (fun _ => rfl) ?_
  cases h
  exact pE_ret rfl rfl rfl
def F_M_spare_146 (N : Nat)  (x5 : Int32) (S : pm_S) : Option (Int32 × pm_S) :=
    some (x5, S)
set_option maxHeartbeats 4000000 in
set_option maxRecDepth 20000 in
theorem f_M_spare_146 (sp : pm_I → List Value → pm_S → pm_O → Prop) (d N : Nat)  (x5 : Int32) (S : pm_S)  (r : (Int32 × pm_S)) (h : F_M_spare_146 N  x5 S = some r) : pmE pG (pm_rel pG sp (d + 5)) mi_M_spare 146 [none, none, none, none, none, some (.int x5), none] [] S (some (.int r.1), r.2) := by
  unfold F_M_spare_146 at h
  refine pE_jump 1 (pc' := 148) (ls' := [none, none, none, none, none, some (.int x5), none]) (st' := [.int x5]) (fun _ => rfl) ?_
  cases h
  exact pE_ret rfl rfl rfl
def F_M_spare_137 (N : Nat) (rec63 : Int32 → Int32 → pm_S → Option (Int32 × pm_S)) (x0 : Nat) (x1 : Int32) (x4 : Int32) (x6 : Int32) (t0 : Int32) (t1 : Int32) (S : pm_S) : Option (Int32 × pm_S) :=
    rec63 (t1 ||| t0) (x6 + 1) S
set_option maxHeartbeats 4000000 in
set_option maxRecDepth 20000 in
theorem f_M_spare_137 (sp : pm_I → List Value → pm_S → pm_O → Prop) (d N : Nat) (rec63 : Int32 → Int32 → pm_S → Option (Int32 × pm_S)) (x0 : Nat) (x1 : Int32) (x4 : Int32) (x6 : Int32) (t0 : Int32) (t1 : Int32) (S : pm_S) (hrec63 : ∀ (y1 : Int32) (y2 : Int32) (U : pm_S) (r : (Int32 × pm_S)), rec63 y1 y2 U = some r → pmE pG (pm_rel pG sp (d + 5)) mi_M_spare 63 [some (.ref x0), some (.int x1), none, none, some (.int x4), some (.int y1), some (.int y2)] [] U (some (.int r.1), r.2)) (r : (Int32 × pm_S)) (h : F_M_spare_137 N rec63 x0 x1 x4 x6 t0 t1 S = some r) : pmE pG (pm_rel pG sp (d + 5)) mi_M_spare 137 [some (.ref x0), some (.int x1), none, none, some (.int x4), none, some (.int x6)] [.int t0, .int t1] S (some (.int r.1), r.2) := by
  unfold F_M_spare_137 at h
  refine pE_jump 4 (pc' := 63) (ls' := [some (.ref x0), some (.int x1), none, none, some (.int x4), some (.int (t1 ||| t0)), some (.int (x6 + 1))]) (st' := []) (fun _ => rfl) ?_
  exact hrec63 (t1 ||| t0) (x6 + 1) S _ h
def F_M_spare_136 (N : Nat) (rec63 : Int32 → Int32 → pm_S → Option (Int32 × pm_S)) (x0 : Nat) (x1 : Int32) (x4 : Int32) (x6 : Int32) (t0 : Int32) (S : pm_S) : Option (Int32 × pm_S) :=
    F_M_spare_137 N rec63 x0 x1 x4 x6 0 t0 S
set_option maxHeartbeats 4000000 in
set_option maxRecDepth 20000 in
theorem f_M_spare_136 (sp : pm_I → List Value → pm_S → pm_O → Prop) (d N : Nat) (rec63 : Int32 → Int32 → pm_S → Option (Int32 × pm_S)) (x0 : Nat) (x1 : Int32) (x4 : Int32) (x6 : Int32) (t0 : Int32) (S : pm_S) (hrec63 : ∀ (y1 : Int32) (y2 : Int32) (U : pm_S) (r : (Int32 × pm_S)), rec63 y1 y2 U = some r → pmE pG (pm_rel pG sp (d + 5)) mi_M_spare 63 [some (.ref x0), some (.int x1), none, none, some (.int x4), some (.int y1), some (.int y2)] [] U (some (.int r.1), r.2)) (r : (Int32 × pm_S)) (h : F_M_spare_136 N rec63 x0 x1 x4 x6 t0 S = some r) : pmE pG (pm_rel pG sp (d + 5)) mi_M_spare 136 [some (.ref x0), some (.int x1), none, none, some (.int x4), none, some (.int x6)] [.int t0] S (some (.int r.1), r.2) := by
  unfold F_M_spare_136 at h
  refine pE_jump 1 (pc' := 137) (ls' := [some (.ref x0), some (.int x1), none, none, some (.int x4), none, some (.int x6)]) (st' := [.int 0, .int t0]) (fun _ => rfl) ?_
  exact f_M_spare_137 sp d N rec63 x0 x1 x4 x6 0 t0 S hrec63 _ h
def B_M_spare_63 (N : Nat)  (rec63 : Int32 → Int32 → pm_S → Option (Int32 × pm_S)) (x0 : Nat) (x1 : Int32) (x4 : Int32) (x5 : Int32) (x6 : Int32) (S : pm_S) : Option (Int32 × pm_S) :=
    (oR S x0 11 10).bind fun oq13 => match oq13 with
    | none => none
    | some q13 =>
    (aI [0, 6] S q13 ((7 * x1) + x4)).bind fun v14 =>
    if v14 ≤ x6 then
    F_M_spare_146 N x5 S
    else
    ((oR S x0 11 27).bind fun oq15 => match oq15 with
    | none => none
    | some q15 =>
    (aI [0, 6] S q15 ((6 * x4) + x6)).bind fun v16 =>
    if v16 = (-1) then
    ((oR S x0 11 26).bind fun oq17 => match oq17 with
    | none => none
    | some q17 =>
    (aI [0, 6] S q17 ((6 * x4) + x6)).bind fun v18 =>
    if v18 = (-1) then
    ((F_M_feeds N S x0 x4 x6).bind fun (v20, S19) =>
    if (lg_cmp v20 0) = 0 then
    F_M_spare_136 N rec63 x0 x1 x4 x6 x5 S19
    else
    F_M_spare_137 N rec63 x0 x1 x4 x6 (1 <<< (x6 &&& 31)) x5 S19)
    else
    F_M_spare_136 N rec63 x0 x1 x4 x6 x5 S)
    else
    F_M_spare_136 N rec63 x0 x1 x4 x6 x5 S)
def F_M_spare_63 (N : Nat)  (x0 : Nat) (x1 : Int32) (x4 : Int32) : Nat → Int32 → Int32 → pm_S → Option (Int32 × pm_S)
  | 0 => fun _ _ _ => none
  | n + 1 => fun x5 x6 S => B_M_spare_63 N  (F_M_spare_63 N  x0 x1 x4 n) x0 x1 x4 x5 x6 S
set_option maxHeartbeats 4000000 in
set_option maxRecDepth 20000 in
theorem f_M_spare_63 (sp : pm_I → List Value → pm_S → pm_O → Prop) (d N : Nat)  (x0 : Nat) (x1 : Int32) (x4 : Int32)  : ∀ (n : Nat) (x5 : Int32) (x6 : Int32) (S : pm_S) (r : (Int32 × pm_S)), F_M_spare_63 N  x0 x1 x4 n x5 x6 S = some r → pmE pG (pm_rel pG sp (d + 5)) mi_M_spare 63 [some (.ref x0), some (.int x1), none, none, some (.int x4), some (.int x5), some (.int x6)] [] S (some (.int r.1), r.2) := by
  intro n
  induction n with
  | zero =>
    intro x5 x6 S r h
    cases h
  | succ n ih =>
    intro x5 x6 S r h
    replace h : B_M_spare_63 N  (F_M_spare_63 N  x0 x1 x4 n) x0 x1 x4 x5 x6 S = some r := h
    have hrec63 := ih
    generalize F_M_spare_63 N  x0 x1 x4 n = rec63 at h hrec63
    unfold B_M_spare_63 at h
    refine pE_jump 2 (pc' := 66) (ls' := [some (.ref x0), some (.int x1), none, none, some (.int x4), some (.int x5), some (.int x6)]) (st' := [.ref x0, .int x6]) (fun _ => rfl) ?_
    obtain ⟨oq13, hq13, h⟩ := obind h
    cases oq13 with
    | none => cases h
    | some q13 =>
      try dsimp only at h
      refine pE_gfS rfl rfl hq13 ?_
      refine pE_jump 5 (pc' := 76) (ls' := [some (.ref x0), some (.int x1), none, none, some (.int x4), some (.int x5), some (.int x6)]) (st' := [.int ((7 * x1) + x4), .ref q13, .int x6]) (fun _ => rfl) ?_
      obtain ⟨v14, hv14, h⟩ := obind h
      refine pE_aI rfl rfl hv14 ?_
      refine pE_br (v14 ≤ x6) rfl rfl (fun c24 => ?_) (fun c24 => ?_)
      · rw [if_pos c24] at h
        refine pE_weak [none, none, none, none, none, some (.int x5), none] ⟨rfl, trivial⟩ ?_
        exact f_M_spare_146 sp d N x5 S _ h
      · rw [if_neg c24] at h
        refine pE_jump 2 (pc' := 83) (ls' := [some (.ref x0), some (.int x1), none, none, some (.int x4), some (.int x5), some (.int x6)]) (st' := [.ref x0, .int x5]) (fun _ => rfl) ?_
        obtain ⟨oq15, hq15, h⟩ := obind h
        cases oq15 with
        | none => cases h
        | some q15 =>
          try dsimp only at h
          refine pE_gfS rfl rfl hq15 ?_
          refine pE_jump 5 (pc' := 94) (ls' := [some (.ref x0), some (.int x1), none, none, some (.int x4), some (.int x5), some (.int x6)]) (st' := [.int ((6 * x4) + x6), .ref q15, .int x5]) (fun _ => rfl) ?_
          obtain ⟨v16, hv16, h⟩ := obind h
          refine pE_aI rfl rfl hv16 ?_
          refine pE_jump 1 (pc' := 96) (ls' := [some (.ref x0), some (.int x1), none, none, some (.int x4), some (.int x5), some (.int x6)]) (st' := [.int (-1), .int v16, .int x5]) (fun _ => rfl) ?_
          refine pE_br (¬ v16 = (-1)) rfl rfl (fun c23 => ?_) (fun c23 => ?_)
          · rw [if_neg c23] at h
            refine pE_weak [some (.ref x0), some (.int x1), none, none, some (.int x4), none, some (.int x6)] ⟨rfl, ⟨rfl, ⟨rfl, ⟨rfl, trivial⟩⟩⟩⟩ ?_
            exact f_M_spare_136 sp d N rec63 x0 x1 x4 x6 x5 S hrec63 _ h
          · have c23 := Decidable.not_not.mp c23
            rw [if_pos c23] at h
            refine pE_jump 1 (pc' := 100) (ls' := [some (.ref x0), some (.int x1), none, none, some (.int x4), some (.int x5), some (.int x6)]) (st' := [.ref x0, .int x5]) (fun _ => rfl) ?_
            obtain ⟨oq17, hq17, h⟩ := obind h
            cases oq17 with
            | none => cases h
            | some q17 =>
              try dsimp only at h
              refine pE_gfS rfl rfl hq17 ?_
              refine pE_jump 5 (pc' := 111) (ls' := [some (.ref x0), some (.int x1), none, none, some (.int x4), some (.int x5), some (.int x6)]) (st' := [.int ((6 * x4) + x6), .ref q17, .int x5]) (fun _ => rfl) ?_
              obtain ⟨v18, hv18, h⟩ := obind h
              refine pE_aI rfl rfl hv18 ?_
              refine pE_jump 1 (pc' := 113) (ls' := [some (.ref x0), some (.int x1), none, none, some (.int x4), some (.int x5), some (.int x6)]) (st' := [.int (-1), .int v18, .int x5]) (fun _ => rfl) ?_
              refine pE_br (¬ v18 = (-1)) rfl rfl (fun c22 => ?_) (fun c22 => ?_)
              · rw [if_neg c22] at h
                refine pE_weak [some (.ref x0), some (.int x1), none, none, some (.int x4), none, some (.int x6)] ⟨rfl, ⟨rfl, ⟨rfl, ⟨rfl, trivial⟩⟩⟩⟩ ?_
                exact f_M_spare_136 sp d N rec63 x0 x1 x4 x6 x5 S hrec63 _ h
              · have c22 := Decidable.not_not.mp c22
                rw [if_pos c22] at h
                refine pE_jump 3 (pc' := 121) (ls' := [some (.ref x0), some (.int x1), none, none, some (.int x4), some (.int x5), some (.int x6)]) (st' := [.int x6, .int x4, .ref x0, .int x5]) (fun _ => rfl) ?_
                obtain ⟨⟨v20, S19⟩, hv20, h⟩ := obind h
                try dsimp only at h
                refine pE_iv (Bs := [.int x4, .int x6]) (st := [.int x5]) 1 rfl (Or.inl ⟨rfl, rfl⟩) rfl rfl (Nat.le_of_ble_eq_true rfl) (Nat.le_of_ble_eq_true rfl) (g_M_feeds hv20) (f_M_feeds sp d N S x0 x4 x6 _ hv20) ?_
                refine pE_jump 2 (pc' := 126) (ls' := [some (.ref x0), some (.int x1), none, none, some (.int x4), some (.int x5), some (.int x6)]) (st' := [.int (lg_cmp v20 0), .int x5]) (fun _ => rfl) ?_
                refine pE_br ((lg_cmp v20 0) = 0) rfl rfl (fun c21 => ?_) (fun c21 => ?_)
                · rw [if_pos c21] at h
                  refine pE_weak [some (.ref x0), some (.int x1), none, none, some (.int x4), none, some (.int x6)] ⟨rfl, ⟨rfl, ⟨rfl, ⟨rfl, trivial⟩⟩⟩⟩ ?_
                  exact f_M_spare_136 sp d N rec63 x0 x1 x4 x6 x5 S19 hrec63 _ h
                · rw [if_neg c21] at h
                  refine pE_jump 4 (pc' := 137) (ls' := [some (.ref x0), some (.int x1), none, none, some (.int x4), some (.int x5), some (.int x6)]) (st' := [.int (1 <<< (x6 &&& 31)), .int x5]) (fun _ => rfl) ?_
                  refine pE_weak [some (.ref x0), some (.int x1), none, none, some (.int x4), none, some (.int x6)] ⟨rfl, ⟨rfl, ⟨rfl, ⟨rfl, trivial⟩⟩⟩⟩ ?_
                  exact f_M_spare_137 sp d N rec63 x0 x1 x4 x6 (1 <<< (x6 &&& 31)) x5 S19 hrec63 _ h
def F_M_spare (N : Nat) (S : pm_S) (a : Nat) (p0 : Int32) (p1 : Int32) (p2 : Int32) : Option (Int32 × pm_S) :=
    if rcv S a 11 = true then
    ((wF S a 11 0 .int (.int 0)).bind fun S1 =>
    (F_M_isWorld N S1 a p0 p1).bind fun (v3, S2) =>
    if v3 = 0 then
    F_M_spare_40 N S2
    else
    ((oR S2 a 11 6).bind fun oq4 => match oq4 with
    | none => none
    | some q4 =>
    (aI [0, 6] S2 q4 p0).bind fun v5 =>
    (F_M_isIn N S2 p2 0 (v5 - 1)).bind fun (v7, S6) =>
    if v7 = 0 then
    F_M_spare_40 N S6
    else
    ((F_M_comesTo N S6 a p0 p2).bind fun (v9, S8) =>
    if v9 = (-1) then
    F_M_spare_40 N S8
    else
    ((F_M_lay N S8 a p0 p1 0).bind fun S10 =>
    (F_M_comesTo N S10 a p0 p2).bind fun (v12, S11) =>
    F_M_spare_63 N a p0 v12 N 0 0 S11))))
    else none
theorem g_M_spare {N : Nat} {S : pm_S} {a : Nat} {p0 : Int32} {p1 : Int32} {p2 : Int32} {r : (Int32 × pm_S)} (h : F_M_spare N S a p0 p1 p2 = some r) : rcv S a 11 = true := by
  unfold F_M_spare at h
  by_cases c : rcv S a 11 = true
  · exact c
  · rw [if_neg c] at h; cases h
set_option maxHeartbeats 4000000 in
set_option maxRecDepth 20000 in
theorem f_M_spare (sp : pm_I → List Value → pm_S → pm_O → Prop) (d N : Nat) (S : pm_S) (a : Nat) (p0 : Int32) (p1 : Int32) (p2 : Int32) (r : (Int32 × pm_S)) (h : F_M_spare N S a p0 p1 p2 = some r) : pm_rel pG sp (d + 6) mi_M_spare [.ref a, .int p0, .int p1, .int p2] S (some (.int r.1), r.2) := by
  have hg := g_M_spare h
  unfold F_M_spare at h
  rw [if_pos hg] at h
  refine pE_rel (d := d + 5) ?_
  show pmE pG _ mi_M_spare 0 [some (.ref a), some (.int p0), some (.int p1), some (.int p2), none, none, none] [] S _
  refine pE_jump 2 (pc' := 2) (ls' := [some (.ref a), some (.int p0), some (.int p1), some (.int p2), none, none, none]) (st' := [.int 0, .ref a]) (fun _ => rfl) ?_
  obtain ⟨S1, hS1, h⟩ := obind h
  refine pE_pf rfl rfl rfl hS1 ?_
  refine pE_jump 3 (pc' := 8) (ls' := [some (.ref a), some (.int p0), some (.int p1), some (.int p2), none, none, none]) (st' := [.int p1, .int p0, .ref a]) (fun _ => rfl) ?_
  obtain ⟨⟨v3, S2⟩, hv3, h⟩ := obind h
  try dsimp only at h
  refine pE_iv (Bs := [.int p0, .int p1]) (st := []) 1 rfl (Or.inl ⟨rfl, rfl⟩) rfl rfl (Nat.le_of_ble_eq_true rfl) (Nat.le_of_ble_eq_true rfl) (g_M_isWorld hv3) (f_M_isWorld sp (d + 3) N S1 a p0 p1 _ hv3) ?_
  refine pE_br (v3 = 0) rfl rfl (fun c27 => ?_) (fun c27 => ?_)
  · rw [if_pos c27] at h
    refine pE_weak [none, none, none, none, none, none, none] trivial ?_
    exact f_M_spare_40 sp d N S2 _ h
  · rw [if_neg c27] at h
    refine pE_jump 3 (pc' := 17) (ls' := [some (.ref a), some (.int p0), some (.int p1), some (.int p2), none, none, none]) (st' := [.ref a, .int 0, .int p2]) (fun _ => rfl) ?_
    obtain ⟨oq4, hq4, h⟩ := obind h
    cases oq4 with
    | none => cases h
    | some q4 =>
      try dsimp only at h
      refine pE_gfS rfl rfl hq4 ?_
      refine pE_jump 1 (pc' := 21) (ls' := [some (.ref a), some (.int p0), some (.int p1), some (.int p2), none, none, none]) (st' := [.int p0, .ref q4, .int 0, .int p2]) (fun _ => rfl) ?_
      obtain ⟨v5, hv5, h⟩ := obind h
      refine pE_aI rfl rfl hv5 ?_
      refine pE_jump 2 (pc' := 24) (ls' := [some (.ref a), some (.int p0), some (.int p1), some (.int p2), none, none, none]) (st' := [.int (v5 - 1), .int 0, .int p2]) (fun _ => rfl) ?_
      obtain ⟨⟨v7, S6⟩, hv7, h⟩ := obind h
      try dsimp only at h
      refine pE_is (Bs := [.int p2, .int 0, .int (v5 - 1)]) (st := []) rfl rfl rfl (Nat.le_of_ble_eq_true rfl) (Nat.le_of_ble_eq_true rfl) (f_M_isIn sp (d + 4) N S2 p2 0 (v5 - 1) _ hv7) ?_
      refine pE_br (v7 = 0) rfl rfl (fun c26 => ?_) (fun c26 => ?_)
      · rw [if_pos c26] at h
        refine pE_weak [none, none, none, none, none, none, none] trivial ?_
        exact f_M_spare_40 sp d N S6 _ h
      · rw [if_neg c26] at h
        refine pE_jump 3 (pc' := 33) (ls' := [some (.ref a), some (.int p0), some (.int p1), some (.int p2), none, none, none]) (st' := [.int p2, .int p0, .ref a]) (fun _ => rfl) ?_
        obtain ⟨⟨v9, S8⟩, hv9, h⟩ := obind h
        try dsimp only at h
        refine pE_iv (Bs := [.int p0, .int p2]) (st := []) 1 rfl (Or.inl ⟨rfl, rfl⟩) rfl rfl (Nat.le_of_ble_eq_true rfl) (Nat.le_of_ble_eq_true rfl) (g_M_comesTo hv9) (f_M_comesTo sp (d + 4) N S6 a p0 p2 _ hv9) ?_
        refine pE_jump 1 (pc' := 37) (ls' := [some (.ref a), some (.int p0), some (.int p1), some (.int p2), none, none, none]) (st' := [.int (-1), .int v9]) (fun _ => rfl) ?_
        refine pE_br (¬ v9 = (-1)) rfl rfl (fun c25 => ?_) (fun c25 => ?_)
        · rw [if_neg c25] at h
          refine pE_jump 4 (pc' := 46) (ls' := [some (.ref a), some (.int p0), some (.int p1), some (.int p2), none, none, none]) (st' := [.int 0, .int p1, .int p0, .ref a]) (fun _ => rfl) ?_
          obtain ⟨S10, hS10, h⟩ := obind h
          refine pE_iv (Bs := [.int p0, .int p1, .int 0]) (st := []) 1 rfl (Or.inl ⟨rfl, rfl⟩) rfl rfl (Nat.le_of_ble_eq_true rfl) (Nat.le_of_ble_eq_true rfl) (g_M_lay hS10) (f_M_lay sp (d + 2) N S8 a p0 p1 0 _ hS10) ?_
          refine pE_jump 3 (pc' := 52) (ls' := [some (.ref a), some (.int p0), some (.int p1), some (.int p2), none, none, none]) (st' := [.int p2, .int p0, .ref a]) (fun _ => rfl) ?_
          obtain ⟨⟨v12, S11⟩, hv12, h⟩ := obind h
          try dsimp only at h
          refine pE_iv (Bs := [.int p0, .int p2]) (st := []) 1 rfl (Or.inl ⟨rfl, rfl⟩) rfl rfl (Nat.le_of_ble_eq_true rfl) (Nat.le_of_ble_eq_true rfl) (g_M_comesTo hv12) (f_M_comesTo sp (d + 4) N S10 a p0 p2 _ hv12) ?_
          refine pE_jump 5 (pc' := 63) (ls' := [some (.ref a), some (.int p0), some (.int p1), some (.int p2), some (.int v12), some (.int 0), some (.int 0)]) (st' := []) (fun _ => rfl) ?_
          refine pE_weak [some (.ref a), some (.int p0), none, none, some (.int v12), some (.int 0), some (.int 0)] ⟨rfl, ⟨rfl, ⟨rfl, ⟨rfl, ⟨rfl, trivial⟩⟩⟩⟩⟩ ?_
          exact f_M_spare_63 sp d N a p0 v12 N 0 0 S11 _ h
        · have c25 := Decidable.not_not.mp c25
          rw [if_pos c25] at h
          refine pE_weak [none, none, none, none, none, none, none] trivial ?_
          exact f_M_spare_40 sp d N S8 _ h
def F_M_test_74 (N : Nat)   (S : pm_S) : Option (Int32 × pm_S) :=
    some ((-1), S)
set_option maxHeartbeats 4000000 in
set_option maxRecDepth 20000 in
theorem f_M_test_74 (sp : pm_I → List Value → pm_S → pm_O → Prop) (d N : Nat)   (S : pm_S)  (r : (Int32 × pm_S)) (h : F_M_test_74 N   S = some r) : pmE pG (pm_rel pG sp (d + 3)) mi_M_test 74 [none, none, none, none, none, none, none, none, none] [] S (some (.int r.1), r.2) := by
  unfold F_M_test_74 at h
  refine pE_jump 1 (pc' := 75) (ls' := [none, none, none, none, none, none, none, none, none]) (st' := [.int (-1)]) (fun _ => rfl) ?_
  cases h
  exact pE_ret rfl rfl rfl
def F_M_test_76 (N : Nat)  (x0 : Nat) (x1 : Int32) (x2 : Int32) (x3 : Int32) (x4 : Int32) (x5 : Int32) (x6 : Int32) (x7 : Int32) (S : pm_S) : Option (Int32 × pm_S) :=
    (oR S x0 11 37).bind fun oq16 => match oq16 with
    | none => none
    | some q16 =>
    (aI [0, 6] S q16 x1).bind fun v17 =>
    (oR S x0 11 38).bind fun oq18 => match oq18 with
    | none => none
    | some q18 =>
    (sI [0] S q18 ((12 * x1) + v17) x2).bind fun S19 =>
    (oR S19 x0 11 39).bind fun oq20 => match oq20 with
    | none => none
    | some q20 =>
    (sI [0] S19 q20 ((12 * x1) + v17) x3).bind fun S21 =>
    (oR S21 x0 11 40).bind fun oq22 => match oq22 with
    | none => none
    | some q22 =>
    (sI [0] S21 q22 ((12 * x1) + v17) x4).bind fun S23 =>
    (oR S23 x0 11 41).bind fun oq24 => match oq24 with
    | none => none
    | some q24 =>
    (sI [0] S23 q24 ((12 * x1) + v17) x5).bind fun S25 =>
    (oR S25 x0 11 42).bind fun oq26 => match oq26 with
    | none => none
    | some q26 =>
    (sI [0] S25 q26 ((12 * x1) + v17) x6).bind fun S27 =>
    (oR S27 x0 11 43).bind fun oq28 => match oq28 with
    | none => none
    | some q28 =>
    (sI [0] S27 q28 ((12 * x1) + v17) x7).bind fun S29 =>
    (oR S29 x0 11 37).bind fun oq30 => match oq30 with
    | none => none
    | some q30 =>
    (aI [0, 6] S29 q30 x1).bind fun v31 =>
    (sI [0] S29 q30 x1 (v31 + 1)).bind fun S32 =>
    (oR S32 x0 11 37).bind fun oq33 => match oq33 with
    | none => none
    | some q33 =>
    (aI [0, 6] S32 q33 x1).bind fun v34 =>
    some (v34 - 1, S32)
set_option maxHeartbeats 4000000 in
set_option maxRecDepth 20000 in
theorem f_M_test_76 (sp : pm_I → List Value → pm_S → pm_O → Prop) (d N : Nat)  (x0 : Nat) (x1 : Int32) (x2 : Int32) (x3 : Int32) (x4 : Int32) (x5 : Int32) (x6 : Int32) (x7 : Int32) (S : pm_S)  (r : (Int32 × pm_S)) (h : F_M_test_76 N  x0 x1 x2 x3 x4 x5 x6 x7 S = some r) : pmE pG (pm_rel pG sp (d + 3)) mi_M_test 76 [some (.ref x0), some (.int x1), some (.int x2), some (.int x3), some (.int x4), some (.int x5), some (.int x6), some (.int x7), none] [] S (some (.int r.1), r.2) := by
  unfold F_M_test_76 at h
  refine pE_jump 4 (pc' := 81) (ls' := [some (.ref x0), some (.int x1), some (.int x2), some (.int x3), some (.int x4), some (.int x5), some (.int x6), some (.int x7), none]) (st' := [.ref x0, .int (12 * x1)]) (fun _ => rfl) ?_
  obtain ⟨oq16, hq16, h⟩ := obind h
  cases oq16 with
  | none => cases h
  | some q16 =>
    try dsimp only at h
    refine pE_gfS rfl rfl hq16 ?_
    refine pE_jump 1 (pc' := 85) (ls' := [some (.ref x0), some (.int x1), some (.int x2), some (.int x3), some (.int x4), some (.int x5), some (.int x6), some (.int x7), none]) (st' := [.int x1, .ref q16, .int (12 * x1)]) (fun _ => rfl) ?_
    obtain ⟨v17, hv17, h⟩ := obind h
    refine pE_aI rfl rfl hv17 ?_
    refine pE_jump 3 (pc' := 90) (ls' := [some (.ref x0), some (.int x1), some (.int x2), some (.int x3), some (.int x4), some (.int x5), some (.int x6), some (.int x7), some (.int ((12 * x1) + v17))]) (st' := [.ref x0]) (fun _ => rfl) ?_
    obtain ⟨oq18, hq18, h⟩ := obind h
    cases oq18 with
    | none => cases h
    | some q18 =>
      try dsimp only at h
      refine pE_gfS rfl rfl hq18 ?_
      refine pE_jump 2 (pc' := 96) (ls' := [some (.ref x0), some (.int x1), some (.int x2), some (.int x3), some (.int x4), some (.int x5), some (.int x6), some (.int x7), some (.int ((12 * x1) + v17))]) (st' := [.int x2, .int ((12 * x1) + v17), .ref q18]) (fun _ => rfl) ?_
      obtain ⟨S19, hS19, h⟩ := obind h
      refine pE_sI rfl rfl hS19 ?_
      refine pE_jump 1 (pc' := 98) (ls' := [some (.ref x0), some (.int x1), some (.int x2), some (.int x3), some (.int x4), some (.int x5), some (.int x6), some (.int x7), some (.int ((12 * x1) + v17))]) (st' := [.ref x0]) (fun _ => rfl) ?_
      obtain ⟨oq20, hq20, h⟩ := obind h
      cases oq20 with
      | none => cases h
      | some q20 =>
        try dsimp only at h
        refine pE_gfS rfl rfl hq20 ?_
        refine pE_jump 2 (pc' := 104) (ls' := [some (.ref x0), some (.int x1), some (.int x2), some (.int x3), some (.int x4), some (.int x5), some (.int x6), some (.int x7), some (.int ((12 * x1) + v17))]) (st' := [.int x3, .int ((12 * x1) + v17), .ref q20]) (fun _ => rfl) ?_
        obtain ⟨S21, hS21, h⟩ := obind h
        refine pE_sI rfl rfl hS21 ?_
        refine pE_jump 1 (pc' := 106) (ls' := [some (.ref x0), some (.int x1), some (.int x2), some (.int x3), some (.int x4), some (.int x5), some (.int x6), some (.int x7), some (.int ((12 * x1) + v17))]) (st' := [.ref x0]) (fun _ => rfl) ?_
        obtain ⟨oq22, hq22, h⟩ := obind h
        cases oq22 with
        | none => cases h
        | some q22 =>
          try dsimp only at h
          refine pE_gfS rfl rfl hq22 ?_
          refine pE_jump 2 (pc' := 113) (ls' := [some (.ref x0), some (.int x1), some (.int x2), some (.int x3), some (.int x4), some (.int x5), some (.int x6), some (.int x7), some (.int ((12 * x1) + v17))]) (st' := [.int x4, .int ((12 * x1) + v17), .ref q22]) (fun _ => rfl) ?_
          obtain ⟨S23, hS23, h⟩ := obind h
          refine pE_sI rfl rfl hS23 ?_
          refine pE_jump 1 (pc' := 115) (ls' := [some (.ref x0), some (.int x1), some (.int x2), some (.int x3), some (.int x4), some (.int x5), some (.int x6), some (.int x7), some (.int ((12 * x1) + v17))]) (st' := [.ref x0]) (fun _ => rfl) ?_
          obtain ⟨oq24, hq24, h⟩ := obind h
          cases oq24 with
          | none => cases h
          | some q24 =>
            try dsimp only at h
            refine pE_gfS rfl rfl hq24 ?_
            refine pE_jump 2 (pc' := 122) (ls' := [some (.ref x0), some (.int x1), some (.int x2), some (.int x3), some (.int x4), some (.int x5), some (.int x6), some (.int x7), some (.int ((12 * x1) + v17))]) (st' := [.int x5, .int ((12 * x1) + v17), .ref q24]) (fun _ => rfl) ?_
            obtain ⟨S25, hS25, h⟩ := obind h
            refine pE_sI rfl rfl hS25 ?_
            refine pE_jump 1 (pc' := 124) (ls' := [some (.ref x0), some (.int x1), some (.int x2), some (.int x3), some (.int x4), some (.int x5), some (.int x6), some (.int x7), some (.int ((12 * x1) + v17))]) (st' := [.ref x0]) (fun _ => rfl) ?_
            obtain ⟨oq26, hq26, h⟩ := obind h
            cases oq26 with
            | none => cases h
            | some q26 =>
              try dsimp only at h
              refine pE_gfS rfl rfl hq26 ?_
              refine pE_jump 2 (pc' := 131) (ls' := [some (.ref x0), some (.int x1), some (.int x2), some (.int x3), some (.int x4), some (.int x5), some (.int x6), some (.int x7), some (.int ((12 * x1) + v17))]) (st' := [.int x6, .int ((12 * x1) + v17), .ref q26]) (fun _ => rfl) ?_
              obtain ⟨S27, hS27, h⟩ := obind h
              refine pE_sI rfl rfl hS27 ?_
              refine pE_jump 1 (pc' := 133) (ls' := [some (.ref x0), some (.int x1), some (.int x2), some (.int x3), some (.int x4), some (.int x5), some (.int x6), some (.int x7), some (.int ((12 * x1) + v17))]) (st' := [.ref x0]) (fun _ => rfl) ?_
              obtain ⟨oq28, hq28, h⟩ := obind h
              cases oq28 with
              | none => cases h
              | some q28 =>
                try dsimp only at h
                refine pE_gfS rfl rfl hq28 ?_
                refine pE_jump 2 (pc' := 140) (ls' := [some (.ref x0), some (.int x1), some (.int x2), some (.int x3), some (.int x4), some (.int x5), some (.int x6), some (.int x7), some (.int ((12 * x1) + v17))]) (st' := [.int x7, .int ((12 * x1) + v17), .ref q28]) (fun _ => rfl) ?_
                obtain ⟨S29, hS29, h⟩ := obind h
                refine pE_sI rfl rfl hS29 ?_
                refine pE_jump 1 (pc' := 142) (ls' := [some (.ref x0), some (.int x1), some (.int x2), some (.int x3), some (.int x4), some (.int x5), some (.int x6), some (.int x7), some (.int ((12 * x1) + v17))]) (st' := [.ref x0]) (fun _ => rfl) ?_
                obtain ⟨oq30, hq30, h⟩ := obind h
                cases oq30 with
                | none => cases h
                | some q30 =>
                  try dsimp only at h
                  refine pE_gfS rfl rfl hq30 ?_
                  refine pE_jump 2 (pc' := 147) (ls' := [some (.ref x0), some (.int x1), some (.int x2), some (.int x3), some (.int x4), some (.int x5), some (.int x6), some (.int x7), some (.int ((12 * x1) + v17))]) (st' := [.int x1, .ref q30, .int x1, .ref q30]) (fun _ => rfl) ?_
                  obtain ⟨v31, hv31, h⟩ := obind h
                  refine pE_aI rfl rfl hv31 ?_
                  refine pE_jump 2 (pc' := 150) (ls' := [some (.ref x0), some (.int x1), some (.int x2), some (.int x3), some (.int x4), some (.int x5), some (.int x6), some (.int x7), some (.int ((12 * x1) + v17))]) (st' := [.int (v31 + 1), .int x1, .ref q30]) (fun _ => rfl) ?_
                  obtain ⟨S32, hS32, h⟩ := obind h
                  refine pE_sI rfl rfl hS32 ?_
                  refine pE_jump 1 (pc' := 152) (ls' := [some (.ref x0), some (.int x1), some (.int x2), some (.int x3), some (.int x4), some (.int x5), some (.int x6), some (.int x7), some (.int ((12 * x1) + v17))]) (st' := [.ref x0]) (fun _ => rfl) ?_
                  obtain ⟨oq33, hq33, h⟩ := obind h
                  cases oq33 with
                  | none => cases h
                  | some q33 =>
                    try dsimp only at h
                    refine pE_gfS rfl rfl hq33 ?_
                    refine pE_jump 1 (pc' := 156) (ls' := [some (.ref x0), some (.int x1), some (.int x2), some (.int x3), some (.int x4), some (.int x5), some (.int x6), some (.int x7), some (.int ((12 * x1) + v17))]) (st' := [.int x1, .ref q33]) (fun _ => rfl) ?_
                    obtain ⟨v34, hv34, h⟩ := obind h
                    refine pE_aI rfl rfl hv34 ?_
                    refine pE_jump 2 (pc' := 159) (ls' := [some (.ref x0), some (.int x1), some (.int x2), some (.int x3), some (.int x4), some (.int x5), some (.int x6), some (.int x7), some (.int ((12 * x1) + v17))]) (st' := [.int (v34 - 1)]) (fun _ => rfl) ?_
                    cases h
                    exact pE_ret rfl rfl rfl
def F_M_test (N : Nat) (S : pm_S) (a : Nat) (p0 : Int32) (p1 : Int32) (p2 : Int32) (p3 : Int32) (p4 : Int32) (p5 : Int32) (p6 : Int32) : Option (Int32 × pm_S) :=
    if rcv S a 11 = true then
    ((wF S a 11 0 .int (.int 0)).bind fun S1 =>
    (F_M_isPlan N S1 a p0).bind fun (v3, S2) =>
    if v3 = 0 then
    F_M_test_74 N S2
    else
    ((oR S2 a 11 37).bind fun oq4 => match oq4 with
    | none => none
    | some q4 =>
    (aI [0, 6] S2 q4 p0).bind fun v5 =>
    if v5 = 12 then
    F_M_test_74 N S2
    else
    ((F_M_isIn N S2 p1 0 1).bind fun (v7, S6) =>
    if v7 = 0 then
    F_M_test_74 N S6
    else
    ((F_M_isPair N S6 a p0 p2 p3).bind fun (v9, S8) =>
    if v9 = 0 then
    F_M_test_74 N S8
    else
    ((F_M_isEnd N S8 p4).bind fun (v11, S10) =>
    if v11 = 0 then
    F_M_test_74 N S10
    else
    (if p1 = 0 then
    ((F_M_isCable N S10 a p0 p5).bind fun (v13, S12) =>
    if v13 = 0 then
    F_M_test_74 N S12
    else
    ((F_M_isEnd N S12 p6).bind fun (v15, S14) =>
    if v15 = 0 then
    F_M_test_74 N S14
    else
    F_M_test_76 N a p0 p1 p2 p3 p4 p5 p6 S14))
    else
    F_M_test_76 N a p0 p1 p2 p3 p4 p5 p6 S10))))))
    else none
theorem g_M_test {N : Nat} {S : pm_S} {a : Nat} {p0 : Int32} {p1 : Int32} {p2 : Int32} {p3 : Int32} {p4 : Int32} {p5 : Int32} {p6 : Int32} {r : (Int32 × pm_S)} (h : F_M_test N S a p0 p1 p2 p3 p4 p5 p6 = some r) : rcv S a 11 = true := by
  unfold F_M_test at h
  by_cases c : rcv S a 11 = true
  · exact c
  · rw [if_neg c] at h; cases h
set_option maxHeartbeats 4000000 in
set_option maxRecDepth 20000 in
theorem f_M_test (sp : pm_I → List Value → pm_S → pm_O → Prop) (d N : Nat) (S : pm_S) (a : Nat) (p0 : Int32) (p1 : Int32) (p2 : Int32) (p3 : Int32) (p4 : Int32) (p5 : Int32) (p6 : Int32) (r : (Int32 × pm_S)) (h : F_M_test N S a p0 p1 p2 p3 p4 p5 p6 = some r) : pm_rel pG sp (d + 4) mi_M_test [.ref a, .int p0, .int p1, .int p2, .int p3, .int p4, .int p5, .int p6] S (some (.int r.1), r.2) := by
  have hg := g_M_test h
  unfold F_M_test at h
  rw [if_pos hg] at h
  refine pE_rel (d := d + 3) ?_
  show pmE pG _ mi_M_test 0 [some (.ref a), some (.int p0), some (.int p1), some (.int p2), some (.int p3), some (.int p4), some (.int p5), some (.int p6), none] [] S _
  refine pE_jump 2 (pc' := 2) (ls' := [some (.ref a), some (.int p0), some (.int p1), some (.int p2), some (.int p3), some (.int p4), some (.int p5), some (.int p6), none]) (st' := [.int 0, .ref a]) (fun _ => rfl) ?_
  obtain ⟨S1, hS1, h⟩ := obind h
  refine pE_pf rfl rfl rfl hS1 ?_
  refine pE_jump 2 (pc' := 7) (ls' := [some (.ref a), some (.int p0), some (.int p1), some (.int p2), some (.int p3), some (.int p4), some (.int p5), some (.int p6), none]) (st' := [.int p0, .ref a]) (fun _ => rfl) ?_
  obtain ⟨⟨v3, S2⟩, hv3, h⟩ := obind h
  try dsimp only at h
  refine pE_iv (Bs := [.int p0]) (st := []) 1 rfl (Or.inl ⟨rfl, rfl⟩) rfl rfl (Nat.le_of_ble_eq_true rfl) (Nat.le_of_ble_eq_true rfl) (g_M_isPlan hv3) (f_M_isPlan sp (d + 2) N S1 a p0 _ hv3) ?_
  refine pE_br (v3 = 0) rfl rfl (fun c42 => ?_) (fun c42 => ?_)
  · rw [if_pos c42] at h
    refine pE_weak [none, none, none, none, none, none, none, none, none] trivial ?_
    exact f_M_test_74 sp d N S2 _ h
  · rw [if_neg c42] at h
    refine pE_jump 1 (pc' := 14) (ls' := [some (.ref a), some (.int p0), some (.int p1), some (.int p2), some (.int p3), some (.int p4), some (.int p5), some (.int p6), none]) (st' := [.ref a]) (fun _ => rfl) ?_
    obtain ⟨oq4, hq4, h⟩ := obind h
    cases oq4 with
    | none => cases h
    | some q4 =>
      try dsimp only at h
      refine pE_gfS rfl rfl hq4 ?_
      refine pE_jump 1 (pc' := 18) (ls' := [some (.ref a), some (.int p0), some (.int p1), some (.int p2), some (.int p3), some (.int p4), some (.int p5), some (.int p6), none]) (st' := [.int p0, .ref q4]) (fun _ => rfl) ?_
      obtain ⟨v5, hv5, h⟩ := obind h
      refine pE_aI rfl rfl hv5 ?_
      refine pE_jump 1 (pc' := 21) (ls' := [some (.ref a), some (.int p0), some (.int p1), some (.int p2), some (.int p3), some (.int p4), some (.int p5), some (.int p6), none]) (st' := [.int 12, .int v5]) (fun _ => rfl) ?_
      refine pE_br (v5 = 12) rfl rfl (fun c41 => ?_) (fun c41 => ?_)
      · rw [if_pos c41] at h
        refine pE_weak [none, none, none, none, none, none, none, none, none] trivial ?_
        exact f_M_test_74 sp d N S2 _ h
      · rw [if_neg c41] at h
        refine pE_jump 3 (pc' := 27) (ls' := [some (.ref a), some (.int p0), some (.int p1), some (.int p2), some (.int p3), some (.int p4), some (.int p5), some (.int p6), none]) (st' := [.int 1, .int 0, .int p1]) (fun _ => rfl) ?_
        obtain ⟨⟨v7, S6⟩, hv7, h⟩ := obind h
        try dsimp only at h
        refine pE_is (Bs := [.int p1, .int 0, .int 1]) (st := []) rfl rfl rfl (Nat.le_of_ble_eq_true rfl) (Nat.le_of_ble_eq_true rfl) (f_M_isIn sp (d + 2) N S2 p1 0 1 _ hv7) ?_
        refine pE_br (v7 = 0) rfl rfl (fun c40 => ?_) (fun c40 => ?_)
        · rw [if_pos c40] at h
          refine pE_weak [none, none, none, none, none, none, none, none, none] trivial ?_
          exact f_M_test_74 sp d N S6 _ h
        · rw [if_neg c40] at h
          refine pE_jump 4 (pc' := 38) (ls' := [some (.ref a), some (.int p0), some (.int p1), some (.int p2), some (.int p3), some (.int p4), some (.int p5), some (.int p6), none]) (st' := [.int p3, .int p2, .int p0, .ref a]) (fun _ => rfl) ?_
          obtain ⟨⟨v9, S8⟩, hv9, h⟩ := obind h
          try dsimp only at h
          refine pE_iv (Bs := [.int p0, .int p2, .int p3]) (st := []) 1 rfl (Or.inl ⟨rfl, rfl⟩) rfl rfl (Nat.le_of_ble_eq_true rfl) (Nat.le_of_ble_eq_true rfl) (g_M_isPair hv9) (f_M_isPair sp d N S6 a p0 p2 p3 _ hv9) ?_
          refine pE_br (v9 = 0) rfl rfl (fun c39 => ?_) (fun c39 => ?_)
          · rw [if_pos c39] at h
            refine pE_weak [none, none, none, none, none, none, none, none, none] trivial ?_
            exact f_M_test_74 sp d N S8 _ h
          · rw [if_neg c39] at h
            refine pE_jump 1 (pc' := 46) (ls' := [some (.ref a), some (.int p0), some (.int p1), some (.int p2), some (.int p3), some (.int p4), some (.int p5), some (.int p6), none]) (st' := [.int p4]) (fun _ => rfl) ?_
            obtain ⟨⟨v11, S10⟩, hv11, h⟩ := obind h
            try dsimp only at h
            refine pE_is (Bs := [.int p4]) (st := []) rfl rfl rfl (Nat.le_of_ble_eq_true rfl) (Nat.le_of_ble_eq_true rfl) (f_M_isEnd sp (d + 1) N S8 p4 _ hv11) ?_
            refine pE_br (v11 = 0) rfl rfl (fun c38 => ?_) (fun c38 => ?_)
            · rw [if_pos c38] at h
              refine pE_weak [none, none, none, none, none, none, none, none, none] trivial ?_
              exact f_M_test_74 sp d N S10 _ h
            · rw [if_neg c38] at h
              refine pE_jump 1 (pc' := 53) (ls' := [some (.ref a), some (.int p0), some (.int p1), some (.int p2), some (.int p3), some (.int p4), some (.int p5), some (.int p6), none]) (st' := [.int p1]) (fun _ => rfl) ?_
              refine pE_br (¬ p1 = 0) rfl rfl (fun c37 => ?_) (fun c37 => ?_)
              · rw [if_neg c37] at h
                exact f_M_test_76 sp d N a p0 p1 p2 p3 p4 p5 p6 S10 _ h
              · have c37 := Decidable.not_not.mp c37
                rw [if_pos c37] at h
                refine pE_jump 3 (pc' := 60) (ls' := [some (.ref a), some (.int p0), some (.int p1), some (.int p2), some (.int p3), some (.int p4), some (.int p5), some (.int p6), none]) (st' := [.int p5, .int p0, .ref a]) (fun _ => rfl) ?_
                obtain ⟨⟨v13, S12⟩, hv13, h⟩ := obind h
                try dsimp only at h
                refine pE_iv (Bs := [.int p0, .int p5]) (st := []) 1 rfl (Or.inl ⟨rfl, rfl⟩) rfl rfl (Nat.le_of_ble_eq_true rfl) (Nat.le_of_ble_eq_true rfl) (g_M_isCable hv13) (f_M_isCable sp (d + 1) N S10 a p0 p5 _ hv13) ?_
                refine pE_br (v13 = 0) rfl rfl (fun c36 => ?_) (fun c36 => ?_)
                · rw [if_pos c36] at h
                  refine pE_weak [none, none, none, none, none, none, none, none, none] trivial ?_
                  exact f_M_test_74 sp d N S12 _ h
                · rw [if_neg c36] at h
                  refine pE_jump 1 (pc' := 68) (ls' := [some (.ref a), some (.int p0), some (.int p1), some (.int p2), some (.int p3), some (.int p4), some (.int p5), some (.int p6), none]) (st' := [.int p6]) (fun _ => rfl) ?_
                  obtain ⟨⟨v15, S14⟩, hv15, h⟩ := obind h
                  try dsimp only at h
                  refine pE_is (Bs := [.int p6]) (st := []) rfl rfl rfl (Nat.le_of_ble_eq_true rfl) (Nat.le_of_ble_eq_true rfl) (f_M_isEnd sp (d + 1) N S12 p6 _ hv15) ?_
                  refine pE_br (¬ v15 = 0) rfl rfl (fun c35 => ?_) (fun c35 => ?_)
                  · rw [if_neg c35] at h
                    exact f_M_test_76 sp d N a p0 p1 p2 p3 p4 p5 p6 S14 _ h
                  · have c35 := Decidable.not_not.mp c35
                    rw [if_pos c35] at h
                    refine pE_weak [none, none, none, none, none, none, none, none, none] trivial ?_
                    exact f_M_test_74 sp d N S14 _ h
def F_M_isTest_29 (N : Nat)  (t0 : Int32) (S : pm_S) : Option (Int32 × pm_S) :=
    if t0 = 0 ∨ t0 = 1 then some (t0, S) else none
set_option maxHeartbeats 4000000 in
set_option maxRecDepth 20000 in
theorem f_M_isTest_29 (sp : pm_I → List Value → pm_S → pm_O → Prop) (d N : Nat)  (t0 : Int32) (S : pm_S)  (r : (Int32 × pm_S)) (h : F_M_isTest_29 N  t0 S = some r) : pmE pG (pm_rel pG sp (d + 1)) mi_M_isTest 29 [none, none, none] [.int t0] S (some (.int r.1), r.2) := by
  unfold F_M_isTest_29 at h
  by_cases c3 : t0 = 0 ∨ t0 = 1
  · rw [if_pos c3] at h
    cases h
    exact pE_ret rfl (if_pos c3) rfl
  · rw [if_neg c3] at h
    cases h
def F_M_isTest_28 (N : Nat)   (S : pm_S) : Option (Int32 × pm_S) :=
    F_M_isTest_29 N 0 S
set_option maxHeartbeats 4000000 in
set_option maxRecDepth 20000 in
theorem f_M_isTest_28 (sp : pm_I → List Value → pm_S → pm_O → Prop) (d N : Nat)   (S : pm_S)  (r : (Int32 × pm_S)) (h : F_M_isTest_28 N   S = some r) : pmE pG (pm_rel pG sp (d + 1)) mi_M_isTest 28 [none, none, none] [] S (some (.int r.1), r.2) := by
  unfold F_M_isTest_28 at h
  refine pE_jump 1 (pc' := 29) (ls' := [none, none, none]) (st' := [.int 0]) (fun _ => rfl) ?_
  exact f_M_isTest_29 sp d N 0 S _ h
def F_M_isTest (N : Nat) (S : pm_S) (a : Nat) (p0 : Int32) (p1 : Int32) : Option (Int32 × pm_S) :=
    if rcv S a 11 = true then
    ((F_M_isPlan N S a p0).bind fun (v2, S1) =>
    if v2 = 0 then
    F_M_isTest_28 N S1
    else
    ((oR S1 a 11 37).bind fun oq4 => match oq4 with
    | none => none
    | some q4 =>
    (aI [0, 6] S1 q4 p0).bind fun v5 =>
    (F_M_isIn N S1 p1 0 (v5 - 1)).bind fun (v7, S6) =>
    if v7 = 0 then
    F_M_isTest_28 N S6
    else
    F_M_isTest_29 N 1 S6))
    else none
theorem g_M_isTest {N : Nat} {S : pm_S} {a : Nat} {p0 : Int32} {p1 : Int32} {r : (Int32 × pm_S)} (h : F_M_isTest N S a p0 p1 = some r) : rcv S a 11 = true := by
  unfold F_M_isTest at h
  by_cases c : rcv S a 11 = true
  · exact c
  · rw [if_neg c] at h; cases h
set_option maxHeartbeats 4000000 in
set_option maxRecDepth 20000 in
theorem f_M_isTest (sp : pm_I → List Value → pm_S → pm_O → Prop) (d N : Nat) (S : pm_S) (a : Nat) (p0 : Int32) (p1 : Int32) (r : (Int32 × pm_S)) (h : F_M_isTest N S a p0 p1 = some r) : pm_rel pG sp (d + 2) mi_M_isTest [.ref a, .int p0, .int p1] S (some (.int r.1), r.2) := by
  have hg := g_M_isTest h
  unfold F_M_isTest at h
  rw [if_pos hg] at h
  refine pE_rel (d := d + 1) ?_
  show pmE pG _ mi_M_isTest 0 [some (.ref a), some (.int p0), some (.int p1)] [] S _
  refine pE_jump 2 (pc' := 2) (ls' := [some (.ref a), some (.int p0), some (.int p1)]) (st' := [.int p0, .ref a]) (fun _ => rfl) ?_
  obtain ⟨⟨v2, S1⟩, hv2, h⟩ := obind h
  try dsimp only at h
  refine pE_iv (Bs := [.int p0]) (st := []) 1 rfl (Or.inl ⟨rfl, rfl⟩) rfl rfl (Nat.le_of_ble_eq_true rfl) (Nat.le_of_ble_eq_true rfl) (g_M_isPlan hv2) (f_M_isPlan sp d N S a p0 _ hv2) ?_
  refine pE_br (v2 = 0) rfl rfl (fun c9 => ?_) (fun c9 => ?_)
  · rw [if_pos c9] at h
    refine pE_weak [none, none, none] trivial ?_
    exact f_M_isTest_28 sp d N S1 _ h
  · rw [if_neg c9] at h
    refine pE_jump 3 (pc' := 11) (ls' := [some (.ref a), some (.int p0), some (.int p1)]) (st' := [.ref a, .int 0, .int p1]) (fun _ => rfl) ?_
    obtain ⟨oq4, hq4, h⟩ := obind h
    cases oq4 with
    | none => cases h
    | some q4 =>
      try dsimp only at h
      refine pE_gfS rfl rfl hq4 ?_
      refine pE_jump 1 (pc' := 15) (ls' := [some (.ref a), some (.int p0), some (.int p1)]) (st' := [.int p0, .ref q4, .int 0, .int p1]) (fun _ => rfl) ?_
      obtain ⟨v5, hv5, h⟩ := obind h
      refine pE_aI rfl rfl hv5 ?_
      refine pE_jump 2 (pc' := 18) (ls' := [some (.ref a), some (.int p0), some (.int p1)]) (st' := [.int (v5 - 1), .int 0, .int p1]) (fun _ => rfl) ?_
      obtain ⟨⟨v7, S6⟩, hv7, h⟩ := obind h
      try dsimp only at h
      refine pE_is (Bs := [.int p1, .int 0, .int (v5 - 1)]) (st := []) rfl rfl rfl (Nat.le_of_ble_eq_true rfl) (Nat.le_of_ble_eq_true rfl) (f_M_isIn sp d N S1 p1 0 (v5 - 1) _ hv7) ?_
      refine pE_br (v7 = 0) rfl rfl (fun c8 => ?_) (fun c8 => ?_)
      · rw [if_pos c8] at h
        refine pE_weak [none, none, none] trivial ?_
        exact f_M_isTest_28 sp d N S6 _ h
      · rw [if_neg c8] at h
        refine pE_jump 2 (pc' := 29) (ls' := [some (.ref a), some (.int p0), some (.int p1)]) (st' := [.int 1]) (fun _ => rfl) ?_
        refine pE_weak [none, none, none] trivial ?_
        exact f_M_isTest_29 sp d N 1 S6 _ h
def F_M_would_78 (N : Nat)  (t0 : Int32) (S : pm_S) : Option (Int32 × pm_S) :=
    some (t0, S)
set_option maxHeartbeats 4000000 in
set_option maxRecDepth 20000 in
theorem f_M_would_78 (sp : pm_I → List Value → pm_S → pm_O → Prop) (d N : Nat)  (t0 : Int32) (S : pm_S)  (r : (Int32 × pm_S)) (h : F_M_would_78 N  t0 S = some r) : pmE pG (pm_rel pG sp (d + 5)) mi_M_would 78 [none, none, none] [.int t0] S (some (.int r.1), r.2) := by
  unfold F_M_would_78 at h
  cases h
  exact pE_ret rfl rfl rfl
def F_M_would (N : Nat) (S : pm_S) (a : Nat) (p0 : Int32) : Option (Int32 × pm_S) :=
    if rcv S a 11 = true then
    ((oI S a 11 29).bind fun v1 =>
    (oR S a 11 38).bind fun oq2 => match oq2 with
    | none => none
    | some q2 =>
    (aI [0, 6] S q2 ((12 * v1) + p0)).bind fun v3 =>
    if v3 = 0 then
    ((oR S a 11 39).bind fun oq4 => match oq4 with
    | none => none
    | some q4 =>
    (aI [0, 6] S q4 ((12 * v1) + p0)).bind fun v5 =>
    (oR S a 11 40).bind fun oq6 => match oq6 with
    | none => none
    | some q6 =>
    (aI [0, 6] S q6 ((12 * v1) + p0)).bind fun v7 =>
    (oR S a 11 41).bind fun oq8 => match oq8 with
    | none => none
    | some q8 =>
    (aI [0, 6] S q8 ((12 * v1) + p0)).bind fun v9 =>
    (oR S a 11 42).bind fun oq10 => match oq10 with
    | none => none
    | some q10 =>
    (aI [0, 6] S q10 ((12 * v1) + p0)).bind fun v11 =>
    (oR S a 11 43).bind fun oq12 => match oq12 with
    | none => none
    | some q12 =>
    (aI [0, 6] S q12 ((12 * v1) + p0)).bind fun v13 =>
    (F_M_heardAt N S a v5 v7 v9 v11 v13).bind fun (v15, S14) =>
    F_M_would_78 N v15 S14)
    else
    ((oR S a 11 39).bind fun oq16 => match oq16 with
    | none => none
    | some q16 =>
    (aI [0, 6] S q16 ((12 * v1) + p0)).bind fun v17 =>
    (oR S a 11 40).bind fun oq18 => match oq18 with
    | none => none
    | some q18 =>
    (aI [0, 6] S q18 ((12 * v1) + p0)).bind fun v19 =>
    (oR S a 11 41).bind fun oq20 => match oq20 with
    | none => none
    | some q20 =>
    (aI [0, 6] S q20 ((12 * v1) + p0)).bind fun v21 =>
    (F_M_metresAt N S a v17 v19 v21).bind fun (v23, S22) =>
    F_M_would_78 N v23 S22))
    else none
theorem g_M_would {N : Nat} {S : pm_S} {a : Nat} {p0 : Int32} {r : (Int32 × pm_S)} (h : F_M_would N S a p0 = some r) : rcv S a 11 = true := by
  unfold F_M_would at h
  by_cases c : rcv S a 11 = true
  · exact c
  · rw [if_neg c] at h; cases h
set_option maxHeartbeats 4000000 in
set_option maxRecDepth 20000 in
theorem f_M_would (sp : pm_I → List Value → pm_S → pm_O → Prop) (d N : Nat) (S : pm_S) (a : Nat) (p0 : Int32) (r : (Int32 × pm_S)) (h : F_M_would N S a p0 = some r) : pm_rel pG sp (d + 6) mi_M_would [.ref a, .int p0] S (some (.int r.1), r.2) := by
  have hg := g_M_would h
  unfold F_M_would at h
  rw [if_pos hg] at h
  refine pE_rel (d := d + 5) ?_
  show pmE pG _ mi_M_would 0 [some (.ref a), some (.int p0), none] [] S _
  refine pE_jump 2 (pc' := 3) (ls' := [some (.ref a), some (.int p0), none]) (st' := [.ref a, .int 12]) (fun _ => rfl) ?_
  obtain ⟨v1, hv1, h⟩ := obind h
  refine pE_gfI rfl rfl hv1 ?_
  refine pE_jump 5 (pc' := 11) (ls' := [some (.ref a), some (.int p0), some (.int ((12 * v1) + p0))]) (st' := [.ref a]) (fun _ => rfl) ?_
  obtain ⟨oq2, hq2, h⟩ := obind h
  cases oq2 with
  | none => cases h
  | some q2 =>
    try dsimp only at h
    refine pE_gfS rfl rfl hq2 ?_
    refine pE_jump 1 (pc' := 15) (ls' := [some (.ref a), some (.int p0), some (.int ((12 * v1) + p0))]) (st' := [.int ((12 * v1) + p0), .ref q2]) (fun _ => rfl) ?_
    obtain ⟨v3, hv3, h⟩ := obind h
    refine pE_aI rfl rfl hv3 ?_
    refine pE_br (¬ v3 = 0) rfl rfl (fun c24 => ?_) (fun c24 => ?_)
    · rw [if_neg c24] at h
      refine pE_jump 2 (pc' := 58) (ls' := [some (.ref a), some (.int p0), some (.int ((12 * v1) + p0))]) (st' := [.ref a, .ref a]) (fun _ => rfl) ?_
      obtain ⟨oq16, hq16, h⟩ := obind h
      cases oq16 with
      | none => cases h
      | some q16 =>
        try dsimp only at h
        refine pE_gfS rfl rfl hq16 ?_
        refine pE_jump 1 (pc' := 62) (ls' := [some (.ref a), some (.int p0), some (.int ((12 * v1) + p0))]) (st' := [.int ((12 * v1) + p0), .ref q16, .ref a]) (fun _ => rfl) ?_
        obtain ⟨v17, hv17, h⟩ := obind h
        refine pE_aI rfl rfl hv17 ?_
        refine pE_jump 1 (pc' := 64) (ls' := [some (.ref a), some (.int p0), some (.int ((12 * v1) + p0))]) (st' := [.ref a, .int v17, .ref a]) (fun _ => rfl) ?_
        obtain ⟨oq18, hq18, h⟩ := obind h
        cases oq18 with
        | none => cases h
        | some q18 =>
          try dsimp only at h
          refine pE_gfS rfl rfl hq18 ?_
          refine pE_jump 1 (pc' := 68) (ls' := [some (.ref a), some (.int p0), some (.int ((12 * v1) + p0))]) (st' := [.int ((12 * v1) + p0), .ref q18, .int v17, .ref a]) (fun _ => rfl) ?_
          obtain ⟨v19, hv19, h⟩ := obind h
          refine pE_aI rfl rfl hv19 ?_
          refine pE_jump 1 (pc' := 70) (ls' := [some (.ref a), some (.int p0), some (.int ((12 * v1) + p0))]) (st' := [.ref a, .int v19, .int v17, .ref a]) (fun _ => rfl) ?_
          obtain ⟨oq20, hq20, h⟩ := obind h
          cases oq20 with
          | none => cases h
          | some q20 =>
            try dsimp only at h
            refine pE_gfS rfl rfl hq20 ?_
            refine pE_jump 1 (pc' := 74) (ls' := [some (.ref a), some (.int p0), some (.int ((12 * v1) + p0))]) (st' := [.int ((12 * v1) + p0), .ref q20, .int v19, .int v17, .ref a]) (fun _ => rfl) ?_
            obtain ⟨v21, hv21, h⟩ := obind h
            refine pE_aI rfl rfl hv21 ?_
            obtain ⟨⟨v23, S22⟩, hv23, h⟩ := obind h
            try dsimp only at h
            refine pE_iv (Bs := [.int v17, .int v19, .int v21]) (st := []) 1 rfl (Or.inl ⟨rfl, rfl⟩) rfl rfl (Nat.le_of_ble_eq_true rfl) (Nat.le_of_ble_eq_true rfl) (g_M_metresAt hv23) (f_M_metresAt sp (d + 1) N S a v17 v19 v21 _ hv23) ?_
            refine pE_weak [none, none, none] trivial ?_
            exact f_M_would_78 sp d N v23 S22 _ h
    · have c24 := Decidable.not_not.mp c24
      rw [if_pos c24] at h
      refine pE_jump 2 (pc' := 21) (ls' := [some (.ref a), some (.int p0), some (.int ((12 * v1) + p0))]) (st' := [.ref a, .ref a]) (fun _ => rfl) ?_
      obtain ⟨oq4, hq4, h⟩ := obind h
      cases oq4 with
      | none => cases h
      | some q4 =>
        try dsimp only at h
        refine pE_gfS rfl rfl hq4 ?_
        refine pE_jump 1 (pc' := 25) (ls' := [some (.ref a), some (.int p0), some (.int ((12 * v1) + p0))]) (st' := [.int ((12 * v1) + p0), .ref q4, .ref a]) (fun _ => rfl) ?_
        obtain ⟨v5, hv5, h⟩ := obind h
        refine pE_aI rfl rfl hv5 ?_
        refine pE_jump 1 (pc' := 27) (ls' := [some (.ref a), some (.int p0), some (.int ((12 * v1) + p0))]) (st' := [.ref a, .int v5, .ref a]) (fun _ => rfl) ?_
        obtain ⟨oq6, hq6, h⟩ := obind h
        cases oq6 with
        | none => cases h
        | some q6 =>
          try dsimp only at h
          refine pE_gfS rfl rfl hq6 ?_
          refine pE_jump 1 (pc' := 31) (ls' := [some (.ref a), some (.int p0), some (.int ((12 * v1) + p0))]) (st' := [.int ((12 * v1) + p0), .ref q6, .int v5, .ref a]) (fun _ => rfl) ?_
          obtain ⟨v7, hv7, h⟩ := obind h
          refine pE_aI rfl rfl hv7 ?_
          refine pE_jump 1 (pc' := 33) (ls' := [some (.ref a), some (.int p0), some (.int ((12 * v1) + p0))]) (st' := [.ref a, .int v7, .int v5, .ref a]) (fun _ => rfl) ?_
          obtain ⟨oq8, hq8, h⟩ := obind h
          cases oq8 with
          | none => cases h
          | some q8 =>
            try dsimp only at h
            refine pE_gfS rfl rfl hq8 ?_
            refine pE_jump 1 (pc' := 37) (ls' := [some (.ref a), some (.int p0), some (.int ((12 * v1) + p0))]) (st' := [.int ((12 * v1) + p0), .ref q8, .int v7, .int v5, .ref a]) (fun _ => rfl) ?_
            obtain ⟨v9, hv9, h⟩ := obind h
            refine pE_aI rfl rfl hv9 ?_
            refine pE_jump 1 (pc' := 39) (ls' := [some (.ref a), some (.int p0), some (.int ((12 * v1) + p0))]) (st' := [.ref a, .int v9, .int v7, .int v5, .ref a]) (fun _ => rfl) ?_
            obtain ⟨oq10, hq10, h⟩ := obind h
            cases oq10 with
            | none => cases h
            | some q10 =>
              try dsimp only at h
              refine pE_gfS rfl rfl hq10 ?_
              refine pE_jump 1 (pc' := 43) (ls' := [some (.ref a), some (.int p0), some (.int ((12 * v1) + p0))]) (st' := [.int ((12 * v1) + p0), .ref q10, .int v9, .int v7, .int v5, .ref a]) (fun _ => rfl) ?_
              obtain ⟨v11, hv11, h⟩ := obind h
              refine pE_aI rfl rfl hv11 ?_
              refine pE_jump 1 (pc' := 45) (ls' := [some (.ref a), some (.int p0), some (.int ((12 * v1) + p0))]) (st' := [.ref a, .int v11, .int v9, .int v7, .int v5, .ref a]) (fun _ => rfl) ?_
              obtain ⟨oq12, hq12, h⟩ := obind h
              cases oq12 with
              | none => cases h
              | some q12 =>
                try dsimp only at h
                refine pE_gfS rfl rfl hq12 ?_
                refine pE_jump 1 (pc' := 49) (ls' := [some (.ref a), some (.int p0), some (.int ((12 * v1) + p0))]) (st' := [.int ((12 * v1) + p0), .ref q12, .int v11, .int v9, .int v7, .int v5, .ref a]) (fun _ => rfl) ?_
                obtain ⟨v13, hv13, h⟩ := obind h
                refine pE_aI rfl rfl hv13 ?_
                obtain ⟨⟨v15, S14⟩, hv15, h⟩ := obind h
                try dsimp only at h
                refine pE_iv (Bs := [.int v5, .int v7, .int v9, .int v11, .int v13]) (st := []) 1 rfl (Or.inl ⟨rfl, rfl⟩) rfl rfl (Nat.le_of_ble_eq_true rfl) (Nat.le_of_ble_eq_true rfl) (g_M_heardAt hv15) (f_M_heardAt sp d N S a v5 v7 v9 v11 v13 _ hv15) ?_
                refine pE_jump 1 (pc' := 78) (ls' := [some (.ref a), some (.int p0), some (.int ((12 * v1) + p0))]) (st' := [.int v15]) (fun _ => rfl) ?_
                refine pE_weak [none, none, none] trivial ?_
                exact f_M_would_78 sp d N v15 S14 _ h
def F_M_wouldIn (N : Nat) (S : pm_S) (a : Nat) (p0 : Int32) (p1 : Int32) (p2 : Int32) (p3 : Int32) : Option (Int32 × pm_S) :=
    if rcv S a 11 = true then
    ((F_M_lay N S a p0 p2 p3).bind fun S1 =>
    (F_M_would N S1 a p1).bind fun (v3, S2) =>
    some (v3, S2))
    else none
theorem g_M_wouldIn {N : Nat} {S : pm_S} {a : Nat} {p0 : Int32} {p1 : Int32} {p2 : Int32} {p3 : Int32} {r : (Int32 × pm_S)} (h : F_M_wouldIn N S a p0 p1 p2 p3 = some r) : rcv S a 11 = true := by
  unfold F_M_wouldIn at h
  by_cases c : rcv S a 11 = true
  · exact c
  · rw [if_neg c] at h; cases h
set_option maxHeartbeats 4000000 in
set_option maxRecDepth 20000 in
theorem f_M_wouldIn (sp : pm_I → List Value → pm_S → pm_O → Prop) (d N : Nat) (S : pm_S) (a : Nat) (p0 : Int32) (p1 : Int32) (p2 : Int32) (p3 : Int32) (r : (Int32 × pm_S)) (h : F_M_wouldIn N S a p0 p1 p2 p3 = some r) : pm_rel pG sp (d + 7) mi_M_wouldIn [.ref a, .int p0, .int p1, .int p2, .int p3] S (some (.int r.1), r.2) := by
  have hg := g_M_wouldIn h
  unfold F_M_wouldIn at h
  rw [if_pos hg] at h
  refine pE_rel (d := d + 6) ?_
  show pmE pG _ mi_M_wouldIn 0 [some (.ref a), some (.int p0), some (.int p1), some (.int p2), some (.int p3)] [] S _
  refine pE_jump 4 (pc' := 5) (ls' := [some (.ref a), some (.int p0), some (.int p1), some (.int p2), some (.int p3)]) (st' := [.int p3, .int p2, .int p0, .ref a]) (fun _ => rfl) ?_
  obtain ⟨S1, hS1, h⟩ := obind h
  refine pE_iv (Bs := [.int p0, .int p2, .int p3]) (st := []) 1 rfl (Or.inl ⟨rfl, rfl⟩) rfl rfl (Nat.le_of_ble_eq_true rfl) (Nat.le_of_ble_eq_true rfl) (g_M_lay hS1) (f_M_lay sp (d + 3) N S a p0 p2 p3 _ hS1) ?_
  refine pE_jump 2 (pc' := 10) (ls' := [some (.ref a), some (.int p0), some (.int p1), some (.int p2), some (.int p3)]) (st' := [.int p1, .ref a]) (fun _ => rfl) ?_
  obtain ⟨⟨v3, S2⟩, hv3, h⟩ := obind h
  try dsimp only at h
  refine pE_iv (Bs := [.int p1]) (st := []) 1 rfl (Or.inl ⟨rfl, rfl⟩) rfl rfl (Nat.le_of_ble_eq_true rfl) (Nat.le_of_ble_eq_true rfl) (g_M_would hv3) (f_M_would sp d N S1 a p1 _ hv3) ?_
  cases h
  exact pE_ret rfl rfl rfl
def F_M_tells_36 (N : Nat)  (t0 : Int32) (S : pm_S) : Option (Int32 × pm_S) :=
    some (t0, S)
set_option maxHeartbeats 4000000 in
set_option maxRecDepth 20000 in
theorem f_M_tells_36 (sp : pm_I → List Value → pm_S → pm_O → Prop) (d N : Nat)  (t0 : Int32) (S : pm_S)  (r : (Int32 × pm_S)) (h : F_M_tells_36 N  t0 S = some r) : pmE pG (pm_rel pG sp (d + 7)) mi_M_tells 36 [none, none, none, none, none] [.int t0] S (some (.int r.1), r.2) := by
  unfold F_M_tells_36 at h
  cases h
  exact pE_ret rfl rfl rfl
def F_M_tells_35 (N : Nat)   (S : pm_S) : Option (Int32 × pm_S) :=
    F_M_tells_36 N (-1) S
set_option maxHeartbeats 4000000 in
set_option maxRecDepth 20000 in
theorem f_M_tells_35 (sp : pm_I → List Value → pm_S → pm_O → Prop) (d N : Nat)   (S : pm_S)  (r : (Int32 × pm_S)) (h : F_M_tells_35 N   S = some r) : pmE pG (pm_rel pG sp (d + 7)) mi_M_tells 35 [none, none, none, none, none] [] S (some (.int r.1), r.2) := by
  unfold F_M_tells_35 at h
  refine pE_jump 1 (pc' := 36) (ls' := [none, none, none, none, none]) (st' := [.int (-1)]) (fun _ => rfl) ?_
  exact f_M_tells_36 sp d N (-1) S _ h
def F_M_tells (N : Nat) (S : pm_S) (a : Nat) (p0 : Int32) (p1 : Int32) (p2 : Int32) (p3 : Int32) : Option (Int32 × pm_S) :=
    if rcv S a 11 = true then
    ((wF S a 11 0 .int (.int 0)).bind fun S1 =>
    (F_M_isTest N S1 a p0 p1).bind fun (v3, S2) =>
    if v3 = 0 then
    F_M_tells_35 N S2
    else
    ((F_M_isWorld N S2 a p0 p2).bind fun (v5, S4) =>
    if v5 = 0 then
    F_M_tells_35 N S4
    else
    ((F_M_wouldIn N S4 a p0 p1 p2 p3).bind fun (v7, S6) =>
    F_M_tells_36 N v7 S6)))
    else none
theorem g_M_tells {N : Nat} {S : pm_S} {a : Nat} {p0 : Int32} {p1 : Int32} {p2 : Int32} {p3 : Int32} {r : (Int32 × pm_S)} (h : F_M_tells N S a p0 p1 p2 p3 = some r) : rcv S a 11 = true := by
  unfold F_M_tells at h
  by_cases c : rcv S a 11 = true
  · exact c
  · rw [if_neg c] at h; cases h
set_option maxHeartbeats 4000000 in
set_option maxRecDepth 20000 in
theorem f_M_tells (sp : pm_I → List Value → pm_S → pm_O → Prop) (d N : Nat) (S : pm_S) (a : Nat) (p0 : Int32) (p1 : Int32) (p2 : Int32) (p3 : Int32) (r : (Int32 × pm_S)) (h : F_M_tells N S a p0 p1 p2 p3 = some r) : pm_rel pG sp (d + 8) mi_M_tells [.ref a, .int p0, .int p1, .int p2, .int p3] S (some (.int r.1), r.2) := by
  have hg := g_M_tells h
  unfold F_M_tells at h
  rw [if_pos hg] at h
  refine pE_rel (d := d + 7) ?_
  show pmE pG _ mi_M_tells 0 [some (.ref a), some (.int p0), some (.int p1), some (.int p2), some (.int p3)] [] S _
  refine pE_jump 2 (pc' := 2) (ls' := [some (.ref a), some (.int p0), some (.int p1), some (.int p2), some (.int p3)]) (st' := [.int 0, .ref a]) (fun _ => rfl) ?_
  obtain ⟨S1, hS1, h⟩ := obind h
  refine pE_pf rfl rfl rfl hS1 ?_
  refine pE_jump 3 (pc' := 8) (ls' := [some (.ref a), some (.int p0), some (.int p1), some (.int p2), some (.int p3)]) (st' := [.int p1, .int p0, .ref a]) (fun _ => rfl) ?_
  obtain ⟨⟨v3, S2⟩, hv3, h⟩ := obind h
  try dsimp only at h
  refine pE_iv (Bs := [.int p0, .int p1]) (st := []) 1 rfl (Or.inl ⟨rfl, rfl⟩) rfl rfl (Nat.le_of_ble_eq_true rfl) (Nat.le_of_ble_eq_true rfl) (g_M_isTest hv3) (f_M_isTest sp (d + 5) N S1 a p0 p1 _ hv3) ?_
  refine pE_br (v3 = 0) rfl rfl (fun c9 => ?_) (fun c9 => ?_)
  · rw [if_pos c9] at h
    refine pE_weak [none, none, none, none, none] trivial ?_
    exact f_M_tells_35 sp d N S2 _ h
  · rw [if_neg c9] at h
    refine pE_jump 3 (pc' := 17) (ls' := [some (.ref a), some (.int p0), some (.int p1), some (.int p2), some (.int p3)]) (st' := [.int p2, .int p0, .ref a]) (fun _ => rfl) ?_
    obtain ⟨⟨v5, S4⟩, hv5, h⟩ := obind h
    try dsimp only at h
    refine pE_iv (Bs := [.int p0, .int p2]) (st := []) 1 rfl (Or.inl ⟨rfl, rfl⟩) rfl rfl (Nat.le_of_ble_eq_true rfl) (Nat.le_of_ble_eq_true rfl) (g_M_isWorld hv5) (f_M_isWorld sp (d + 5) N S2 a p0 p2 _ hv5) ?_
    refine pE_br (v5 = 0) rfl rfl (fun c8 => ?_) (fun c8 => ?_)
    · rw [if_pos c8] at h
      refine pE_weak [none, none, none, none, none] trivial ?_
      exact f_M_tells_35 sp d N S4 _ h
    · rw [if_neg c8] at h
      refine pE_jump 5 (pc' := 29) (ls' := [some (.ref a), some (.int p0), some (.int p1), some (.int p2), some (.int p3)]) (st' := [.int p3, .int p2, .int p1, .int p0, .ref a]) (fun _ => rfl) ?_
      obtain ⟨⟨v7, S6⟩, hv7, h⟩ := obind h
      try dsimp only at h
      refine pE_iv (Bs := [.int p0, .int p1, .int p2, .int p3]) (st := []) 1 rfl (Or.inl ⟨rfl, rfl⟩) rfl rfl (Nat.le_of_ble_eq_true rfl) (Nat.le_of_ble_eq_true rfl) (g_M_wouldIn hv7) (f_M_wouldIn sp d N S4 a p0 p1 p2 p3 _ hv7) ?_
      refine pE_jump 1 (pc' := 36) (ls' := [some (.ref a), some (.int p0), some (.int p1), some (.int p2), some (.int p3)]) (st' := [.int v7]) (fun _ => rfl) ?_
      refine pE_weak [none, none, none, none, none] trivial ?_
      exact f_M_tells_36 sp d N v7 S6 _ h
def F_M_read_30 (N : Nat)   (S : pm_S) : Option (Int32 × pm_S) :=
    some ((-1), S)
set_option maxHeartbeats 4000000 in
set_option maxRecDepth 20000 in
theorem f_M_read_30 (sp : pm_I → List Value → pm_S → pm_O → Prop) (d N : Nat)   (S : pm_S)  (r : (Int32 × pm_S)) (h : F_M_read_30 N   S = some r) : pmE pG (pm_rel pG sp (d + 2)) mi_M_read 30 [none, none, none, none, none, none] [] S (some (.int r.1), r.2) := by
  unfold F_M_read_30 at h
  refine pE_jump 1 (pc' := 31) (ls' := [none, none, none, none, none, none]) (st' := [.int (-1)]) (fun _ => rfl) ?_
  cases h
  exact pE_ret rfl rfl rfl
def F_M_read (N : Nat) (S : pm_S) (a : Nat) (p0 : Int32) (p1 : Int32) (p2 : Int32) (p3 : Int32) : Option (Int32 × pm_S) :=
    if rcv S a 11 = true then
    ((wF S a 11 0 .int (.int 0)).bind fun S1 =>
    (F_M_isTest N S1 a p0 p1).bind fun (v3, S2) =>
    if v3 = 0 then
    F_M_read_30 N S2
    else
    (if p3 < 0 then
    F_M_read_30 N S2
    else
    ((oR S2 a 11 44).bind fun oq4 => match oq4 with
    | none => none
    | some q4 =>
    (aI [0, 6] S2 q4 p0).bind fun v5 =>
    if v5 = 24 then
    F_M_read_30 N S2
    else
    ((oR S2 a 11 44).bind fun oq6 => match oq6 with
    | none => none
    | some q6 =>
    (aI [0, 6] S2 q6 p0).bind fun v7 =>
    (oR S2 a 11 45).bind fun oq8 => match oq8 with
    | none => none
    | some q8 =>
    (sI [0] S2 q8 ((24 * p0) + v7) p1).bind fun S9 =>
    (oR S9 a 11 47).bind fun oq10 => match oq10 with
    | none => none
    | some q10 =>
    (sI [2, 3] S9 q10 ((24 * p0) + v7) p2).bind fun S11 =>
    (oR S11 a 11 46).bind fun oq12 => match oq12 with
    | none => none
    | some q12 =>
    (sI [0] S11 q12 ((24 * p0) + v7) p3).bind fun S13 =>
    (oR S13 a 11 44).bind fun oq14 => match oq14 with
    | none => none
    | some q14 =>
    (aI [0, 6] S13 q14 p0).bind fun v15 =>
    (sI [0] S13 q14 p0 (v15 + 1)).bind fun S16 =>
    (oR S16 a 11 44).bind fun oq17 => match oq17 with
    | none => none
    | some q17 =>
    (aI [0, 6] S16 q17 p0).bind fun v18 =>
    some (v18, S16)))))
    else none
theorem g_M_read {N : Nat} {S : pm_S} {a : Nat} {p0 : Int32} {p1 : Int32} {p2 : Int32} {p3 : Int32} {r : (Int32 × pm_S)} (h : F_M_read N S a p0 p1 p2 p3 = some r) : rcv S a 11 = true := by
  unfold F_M_read at h
  by_cases c : rcv S a 11 = true
  · exact c
  · rw [if_neg c] at h; cases h
set_option maxHeartbeats 4000000 in
set_option maxRecDepth 20000 in
theorem f_M_read (sp : pm_I → List Value → pm_S → pm_O → Prop) (d N : Nat) (S : pm_S) (a : Nat) (p0 : Int32) (p1 : Int32) (p2 : Int32) (p3 : Int32) (r : (Int32 × pm_S)) (h : F_M_read N S a p0 p1 p2 p3 = some r) : pm_rel pG sp (d + 3) mi_M_read [.ref a, .int p0, .int p1, .int p2, .int p3] S (some (.int r.1), r.2) := by
  have hg := g_M_read h
  unfold F_M_read at h
  rw [if_pos hg] at h
  refine pE_rel (d := d + 2) ?_
  show pmE pG _ mi_M_read 0 [some (.ref a), some (.int p0), some (.int p1), some (.int p2), some (.int p3), none] [] S _
  refine pE_jump 2 (pc' := 2) (ls' := [some (.ref a), some (.int p0), some (.int p1), some (.int p2), some (.int p3), none]) (st' := [.int 0, .ref a]) (fun _ => rfl) ?_
  obtain ⟨S1, hS1, h⟩ := obind h
  refine pE_pf rfl rfl rfl hS1 ?_
  refine pE_jump 3 (pc' := 8) (ls' := [some (.ref a), some (.int p0), some (.int p1), some (.int p2), some (.int p3), none]) (st' := [.int p1, .int p0, .ref a]) (fun _ => rfl) ?_
  obtain ⟨⟨v3, S2⟩, hv3, h⟩ := obind h
  try dsimp only at h
  refine pE_iv (Bs := [.int p0, .int p1]) (st := []) 1 rfl (Or.inl ⟨rfl, rfl⟩) rfl rfl (Nat.le_of_ble_eq_true rfl) (Nat.le_of_ble_eq_true rfl) (g_M_isTest hv3) (f_M_isTest sp d N S1 a p0 p1 _ hv3) ?_
  refine pE_br (v3 = 0) rfl rfl (fun c21 => ?_) (fun c21 => ?_)
  · rw [if_pos c21] at h
    refine pE_weak [none, none, none, none, none, none] trivial ?_
    exact f_M_read_30 sp d N S2 _ h
  · rw [if_neg c21] at h
    refine pE_jump 1 (pc' := 16) (ls' := [some (.ref a), some (.int p0), some (.int p1), some (.int p2), some (.int p3), none]) (st' := [.int p3]) (fun _ => rfl) ?_
    refine pE_br (p3 < 0) rfl rfl (fun c20 => ?_) (fun c20 => ?_)
    · rw [if_pos c20] at h
      refine pE_weak [none, none, none, none, none, none] trivial ?_
      exact f_M_read_30 sp d N S2 _ h
    · rw [if_neg c20] at h
      refine pE_jump 1 (pc' := 20) (ls' := [some (.ref a), some (.int p0), some (.int p1), some (.int p2), some (.int p3), none]) (st' := [.ref a]) (fun _ => rfl) ?_
      obtain ⟨oq4, hq4, h⟩ := obind h
      cases oq4 with
      | none => cases h
      | some q4 =>
        try dsimp only at h
        refine pE_gfS rfl rfl hq4 ?_
        refine pE_jump 1 (pc' := 24) (ls' := [some (.ref a), some (.int p0), some (.int p1), some (.int p2), some (.int p3), none]) (st' := [.int p0, .ref q4]) (fun _ => rfl) ?_
        obtain ⟨v5, hv5, h⟩ := obind h
        refine pE_aI rfl rfl hv5 ?_
        refine pE_jump 1 (pc' := 27) (ls' := [some (.ref a), some (.int p0), some (.int p1), some (.int p2), some (.int p3), none]) (st' := [.int 24, .int v5]) (fun _ => rfl) ?_
        refine pE_br (¬ v5 = 24) rfl rfl (fun c19 => ?_) (fun c19 => ?_)
        · rw [if_neg c19] at h
          refine pE_jump 4 (pc' := 37) (ls' := [some (.ref a), some (.int p0), some (.int p1), some (.int p2), some (.int p3), none]) (st' := [.ref a, .int (24 * p0)]) (fun _ => rfl) ?_
          obtain ⟨oq6, hq6, h⟩ := obind h
          cases oq6 with
          | none => cases h
          | some q6 =>
            try dsimp only at h
            refine pE_gfS rfl rfl hq6 ?_
            refine pE_jump 1 (pc' := 41) (ls' := [some (.ref a), some (.int p0), some (.int p1), some (.int p2), some (.int p3), none]) (st' := [.int p0, .ref q6, .int (24 * p0)]) (fun _ => rfl) ?_
            obtain ⟨v7, hv7, h⟩ := obind h
            refine pE_aI rfl rfl hv7 ?_
            refine pE_jump 3 (pc' := 46) (ls' := [some (.ref a), some (.int p0), some (.int p1), some (.int p2), some (.int p3), some (.int ((24 * p0) + v7))]) (st' := [.ref a]) (fun _ => rfl) ?_
            obtain ⟨oq8, hq8, h⟩ := obind h
            cases oq8 with
            | none => cases h
            | some q8 =>
              try dsimp only at h
              refine pE_gfS rfl rfl hq8 ?_
              refine pE_jump 2 (pc' := 52) (ls' := [some (.ref a), some (.int p0), some (.int p1), some (.int p2), some (.int p3), some (.int ((24 * p0) + v7))]) (st' := [.int p1, .int ((24 * p0) + v7), .ref q8]) (fun _ => rfl) ?_
              obtain ⟨S9, hS9, h⟩ := obind h
              refine pE_sI rfl rfl hS9 ?_
              refine pE_jump 1 (pc' := 54) (ls' := [some (.ref a), some (.int p0), some (.int p1), some (.int p2), some (.int p3), some (.int ((24 * p0) + v7))]) (st' := [.ref a]) (fun _ => rfl) ?_
              obtain ⟨oq10, hq10, h⟩ := obind h
              cases oq10 with
              | none => cases h
              | some q10 =>
                try dsimp only at h
                refine pE_gfS rfl rfl hq10 ?_
                refine pE_jump 2 (pc' := 60) (ls' := [some (.ref a), some (.int p0), some (.int p1), some (.int p2), some (.int p3), some (.int ((24 * p0) + v7))]) (st' := [.int p2, .int ((24 * p0) + v7), .ref q10]) (fun _ => rfl) ?_
                obtain ⟨S11, hS11, h⟩ := obind h
                refine pE_sI rfl rfl hS11 ?_
                refine pE_jump 1 (pc' := 62) (ls' := [some (.ref a), some (.int p0), some (.int p1), some (.int p2), some (.int p3), some (.int ((24 * p0) + v7))]) (st' := [.ref a]) (fun _ => rfl) ?_
                obtain ⟨oq12, hq12, h⟩ := obind h
                cases oq12 with
                | none => cases h
                | some q12 =>
                  try dsimp only at h
                  refine pE_gfS rfl rfl hq12 ?_
                  refine pE_jump 2 (pc' := 69) (ls' := [some (.ref a), some (.int p0), some (.int p1), some (.int p2), some (.int p3), some (.int ((24 * p0) + v7))]) (st' := [.int p3, .int ((24 * p0) + v7), .ref q12]) (fun _ => rfl) ?_
                  obtain ⟨S13, hS13, h⟩ := obind h
                  refine pE_sI rfl rfl hS13 ?_
                  refine pE_jump 1 (pc' := 71) (ls' := [some (.ref a), some (.int p0), some (.int p1), some (.int p2), some (.int p3), some (.int ((24 * p0) + v7))]) (st' := [.ref a]) (fun _ => rfl) ?_
                  obtain ⟨oq14, hq14, h⟩ := obind h
                  cases oq14 with
                  | none => cases h
                  | some q14 =>
                    try dsimp only at h
                    refine pE_gfS rfl rfl hq14 ?_
                    refine pE_jump 2 (pc' := 76) (ls' := [some (.ref a), some (.int p0), some (.int p1), some (.int p2), some (.int p3), some (.int ((24 * p0) + v7))]) (st' := [.int p0, .ref q14, .int p0, .ref q14]) (fun _ => rfl) ?_
                    obtain ⟨v15, hv15, h⟩ := obind h
                    refine pE_aI rfl rfl hv15 ?_
                    refine pE_jump 2 (pc' := 79) (ls' := [some (.ref a), some (.int p0), some (.int p1), some (.int p2), some (.int p3), some (.int ((24 * p0) + v7))]) (st' := [.int (v15 + 1), .int p0, .ref q14]) (fun _ => rfl) ?_
                    obtain ⟨S16, hS16, h⟩ := obind h
                    refine pE_sI rfl rfl hS16 ?_
                    refine pE_jump 1 (pc' := 81) (ls' := [some (.ref a), some (.int p0), some (.int p1), some (.int p2), some (.int p3), some (.int ((24 * p0) + v7))]) (st' := [.ref a]) (fun _ => rfl) ?_
                    obtain ⟨oq17, hq17, h⟩ := obind h
                    cases oq17 with
                    | none => cases h
                    | some q17 =>
                      try dsimp only at h
                      refine pE_gfS rfl rfl hq17 ?_
                      refine pE_jump 1 (pc' := 85) (ls' := [some (.ref a), some (.int p0), some (.int p1), some (.int p2), some (.int p3), some (.int ((24 * p0) + v7))]) (st' := [.int p0, .ref q17]) (fun _ => rfl) ?_
                      obtain ⟨v18, hv18, h⟩ := obind h
                      refine pE_aI rfl rfl hv18 ?_
                      cases h
                      exact pE_ret rfl rfl rfl
        · have c19 := Decidable.not_not.mp c19
          rw [if_pos c19] at h
          refine pE_weak [none, none, none, none, none, none] trivial ?_
          exact f_M_read_30 sp d N S2 _ h
def F_M_unread_22 (N : Nat)   (S : pm_S) : Option (Int32 × pm_S) :=
    some ((-1), S)
set_option maxHeartbeats 4000000 in
set_option maxRecDepth 20000 in
theorem f_M_unread_22 (sp : pm_I → List Value → pm_S → pm_O → Prop) (d N : Nat)   (S : pm_S)  (r : (Int32 × pm_S)) (h : F_M_unread_22 N   S = some r) : pmE pG (pm_rel pG sp (d + 1)) mi_M_unread 22 [none, none] [] S (some (.int r.1), r.2) := by
  unfold F_M_unread_22 at h
  refine pE_jump 1 (pc' := 23) (ls' := [none, none]) (st' := [.int (-1)]) (fun _ => rfl) ?_
  cases h
  exact pE_ret rfl rfl rfl
def F_M_unread (N : Nat) (S : pm_S) (a : Nat) (p0 : Int32) : Option (Int32 × pm_S) :=
    if rcv S a 11 = true then
    ((wF S a 11 0 .int (.int 0)).bind fun S1 =>
    (F_M_isPlan N S1 a p0).bind fun (v3, S2) =>
    if v3 = 0 then
    F_M_unread_22 N S2
    else
    ((oR S2 a 11 44).bind fun oq4 => match oq4 with
    | none => none
    | some q4 =>
    (aI [0, 6] S2 q4 p0).bind fun v5 =>
    if v5 = 0 then
    F_M_unread_22 N S2
    else
    ((oR S2 a 11 44).bind fun oq6 => match oq6 with
    | none => none
    | some q6 =>
    (aI [0, 6] S2 q6 p0).bind fun v7 =>
    (sI [0] S2 q6 p0 (v7 - 1)).bind fun S8 =>
    (oR S8 a 11 44).bind fun oq9 => match oq9 with
    | none => none
    | some q9 =>
    (aI [0, 6] S8 q9 p0).bind fun v10 =>
    some (v10, S8))))
    else none
theorem g_M_unread {N : Nat} {S : pm_S} {a : Nat} {p0 : Int32} {r : (Int32 × pm_S)} (h : F_M_unread N S a p0 = some r) : rcv S a 11 = true := by
  unfold F_M_unread at h
  by_cases c : rcv S a 11 = true
  · exact c
  · rw [if_neg c] at h; cases h
set_option maxHeartbeats 4000000 in
set_option maxRecDepth 20000 in
theorem f_M_unread (sp : pm_I → List Value → pm_S → pm_O → Prop) (d N : Nat) (S : pm_S) (a : Nat) (p0 : Int32) (r : (Int32 × pm_S)) (h : F_M_unread N S a p0 = some r) : pm_rel pG sp (d + 2) mi_M_unread [.ref a, .int p0] S (some (.int r.1), r.2) := by
  have hg := g_M_unread h
  unfold F_M_unread at h
  rw [if_pos hg] at h
  refine pE_rel (d := d + 1) ?_
  show pmE pG _ mi_M_unread 0 [some (.ref a), some (.int p0)] [] S _
  refine pE_jump 2 (pc' := 2) (ls' := [some (.ref a), some (.int p0)]) (st' := [.int 0, .ref a]) (fun _ => rfl) ?_
  obtain ⟨S1, hS1, h⟩ := obind h
  refine pE_pf rfl rfl rfl hS1 ?_
  refine pE_jump 2 (pc' := 7) (ls' := [some (.ref a), some (.int p0)]) (st' := [.int p0, .ref a]) (fun _ => rfl) ?_
  obtain ⟨⟨v3, S2⟩, hv3, h⟩ := obind h
  try dsimp only at h
  refine pE_iv (Bs := [.int p0]) (st := []) 1 rfl (Or.inl ⟨rfl, rfl⟩) rfl rfl (Nat.le_of_ble_eq_true rfl) (Nat.le_of_ble_eq_true rfl) (g_M_isPlan hv3) (f_M_isPlan sp d N S1 a p0 _ hv3) ?_
  refine pE_br (v3 = 0) rfl rfl (fun c12 => ?_) (fun c12 => ?_)
  · rw [if_pos c12] at h
    refine pE_weak [none, none] trivial ?_
    exact f_M_unread_22 sp d N S2 _ h
  · rw [if_neg c12] at h
    refine pE_jump 1 (pc' := 14) (ls' := [some (.ref a), some (.int p0)]) (st' := [.ref a]) (fun _ => rfl) ?_
    obtain ⟨oq4, hq4, h⟩ := obind h
    cases oq4 with
    | none => cases h
    | some q4 =>
      try dsimp only at h
      refine pE_gfS rfl rfl hq4 ?_
      refine pE_jump 1 (pc' := 18) (ls' := [some (.ref a), some (.int p0)]) (st' := [.int p0, .ref q4]) (fun _ => rfl) ?_
      obtain ⟨v5, hv5, h⟩ := obind h
      refine pE_aI rfl rfl hv5 ?_
      refine pE_br (¬ v5 = 0) rfl rfl (fun c11 => ?_) (fun c11 => ?_)
      · rw [if_neg c11] at h
        refine pE_jump 1 (pc' := 25) (ls' := [some (.ref a), some (.int p0)]) (st' := [.ref a]) (fun _ => rfl) ?_
        obtain ⟨oq6, hq6, h⟩ := obind h
        cases oq6 with
        | none => cases h
        | some q6 =>
          try dsimp only at h
          refine pE_gfS rfl rfl hq6 ?_
          refine pE_jump 2 (pc' := 30) (ls' := [some (.ref a), some (.int p0)]) (st' := [.int p0, .ref q6, .int p0, .ref q6]) (fun _ => rfl) ?_
          obtain ⟨v7, hv7, h⟩ := obind h
          refine pE_aI rfl rfl hv7 ?_
          refine pE_jump 2 (pc' := 33) (ls' := [some (.ref a), some (.int p0)]) (st' := [.int (v7 - 1), .int p0, .ref q6]) (fun _ => rfl) ?_
          obtain ⟨S8, hS8, h⟩ := obind h
          refine pE_sI rfl rfl hS8 ?_
          refine pE_jump 1 (pc' := 35) (ls' := [some (.ref a), some (.int p0)]) (st' := [.ref a]) (fun _ => rfl) ?_
          obtain ⟨oq9, hq9, h⟩ := obind h
          cases oq9 with
          | none => cases h
          | some q9 =>
            try dsimp only at h
            refine pE_gfS rfl rfl hq9 ?_
            refine pE_jump 1 (pc' := 39) (ls' := [some (.ref a), some (.int p0)]) (st' := [.int p0, .ref q9]) (fun _ => rfl) ?_
            obtain ⟨v10, hv10, h⟩ := obind h
            refine pE_aI rfl rfl hv10 ?_
            cases h
            exact pE_ret rfl rfl rfl
      · have c11 := Decidable.not_not.mp c11
        rw [if_pos c11] at h
        refine pE_weak [none, none] trivial ?_
        exact f_M_unread_22 sp d N S2 _ h
