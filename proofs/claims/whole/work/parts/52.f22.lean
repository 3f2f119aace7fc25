def F_M_want_20 (N : Nat)   (S : pm_S) : Option (Int32 × pm_S) :=
    some (0, S)
set_option maxHeartbeats 4000000 in
set_option maxRecDepth 20000 in
theorem f_M_want_20 (sp : pm_I → List Value → pm_S → pm_O → Prop) (d N : Nat)   (S : pm_S)  (r : (Int32 × pm_S)) (h : F_M_want_20 N   S = some r) : pmE pG (pm_rel pG sp (d + 3)) mi_M_want 20 [none, none, none, none, none, none, none] [] S (some (.int r.1), r.2) := by
  unfold F_M_want_20 at h
  refine pE_jump 1 (pc' := 21) (ls' := [none, none, none, none, none, none, none]) (st' := [.int 0]) (fun _ => rfl) ?_
  cases h
  exact pE_ret rfl rfl rfl
def F_M_want_61 (N : Nat)   (S : pm_S) : Option (Int32 × pm_S) :=
    some (0, S)
set_option maxHeartbeats 4000000 in
set_option maxRecDepth 20000 in
theorem f_M_want_61 (sp : pm_I → List Value → pm_S → pm_O → Prop) (d N : Nat)   (S : pm_S)  (r : (Int32 × pm_S)) (h : F_M_want_61 N   S = some r) : pmE pG (pm_rel pG sp (d + 3)) mi_M_want 61 [none, none, none, none, none, none, none] [] S (some (.int r.1), r.2) := by
  unfold F_M_want_61 at h
  refine pE_jump 1 (pc' := 62) (ls' := [none, none, none, none, none, none, none]) (st' := [.int 0]) (fun _ => rfl) ?_
  cases h
  exact pE_ret rfl rfl rfl
def F_M_want_135 (N : Nat)  (x0 : Nat) (x1 : Int32) (x2 : Int32) (x3 : Int32) (S : pm_S) : Option (Int32 × pm_S) :=
    (oR S x0 11 53).bind fun oq9 => match oq9 with
    | none => none
    | some q9 =>
    (sI [0] S q9 ((10 * x1) + x2) x3).bind fun S10 =>
    some (1, S10)
set_option maxHeartbeats 4000000 in
set_option maxRecDepth 20000 in
theorem f_M_want_135 (sp : pm_I → List Value → pm_S → pm_O → Prop) (d N : Nat)  (x0 : Nat) (x1 : Int32) (x2 : Int32) (x3 : Int32) (S : pm_S)  (r : (Int32 × pm_S)) (h : F_M_want_135 N  x0 x1 x2 x3 S = some r) : pmE pG (pm_rel pG sp (d + 3)) mi_M_want 135 [some (.ref x0), some (.int x1), some (.int x2), some (.int x3), none, none, none] [] S (some (.int r.1), r.2) := by
  unfold F_M_want_135 at h
  refine pE_jump 1 (pc' := 136) (ls' := [some (.ref x0), some (.int x1), some (.int x2), some (.int x3), none, none, none]) (st' := [.ref x0]) (fun _ => rfl) ?_
  obtain ⟨oq9, hq9, h⟩ := obind h
  cases oq9 with
  | none => cases h
  | some q9 =>
    try dsimp only at h
    refine pE_gfS rfl rfl hq9 ?_
    refine pE_jump 6 (pc' := 146) (ls' := [some (.ref x0), some (.int x1), some (.int x2), some (.int x3), none, none, none]) (st' := [.int x3, .int ((10 * x1) + x2), .ref q9]) (fun _ => rfl) ?_
    obtain ⟨S10, hS10, h⟩ := obind h
    refine pE_sI rfl rfl hS10 ?_
    refine pE_jump 1 (pc' := 148) (ls' := [some (.ref x0), some (.int x1), some (.int x2), some (.int x3), none, none, none]) (st' := [.int 1]) (fun _ => rfl) ?_
    cases h
    exact pE_ret rfl rfl rfl
def F_M_want_129 (N : Nat) (rec66 : Int32 → pm_S → Option (Int32 × pm_S)) (x0 : Nat) (x1 : Int32) (x2 : Int32) (x3 : Int32) (x4 : Int32) (x5 : Int32) (S : pm_S) : Option (Int32 × pm_S) :=
    rec66 (x5 + 1) S
set_option maxHeartbeats 4000000 in
set_option maxRecDepth 20000 in
theorem f_M_want_129 (sp : pm_I → List Value → pm_S → pm_O → Prop) (d N : Nat) (rec66 : Int32 → pm_S → Option (Int32 × pm_S)) (x0 : Nat) (x1 : Int32) (x2 : Int32) (x3 : Int32) (x4 : Int32) (x5 : Int32) (S : pm_S) (hrec66 : ∀ (y1 : Int32) (U : pm_S) (r : (Int32 × pm_S)), rec66 y1 U = some r → pmE pG (pm_rel pG sp (d + 3)) mi_M_want 66 [some (.ref x0), some (.int x1), some (.int x2), some (.int x3), some (.int x4), some (.int y1), none] [] U (some (.int r.1), r.2)) (r : (Int32 × pm_S)) (h : F_M_want_129 N rec66 x0 x1 x2 x3 x4 x5 S = some r) : pmE pG (pm_rel pG sp (d + 3)) mi_M_want 129 [some (.ref x0), some (.int x1), some (.int x2), some (.int x3), some (.int x4), some (.int x5), none] [] S (some (.int r.1), r.2) := by
  unfold F_M_want_129 at h
  refine pE_jump 2 (pc' := 66) (ls' := [some (.ref x0), some (.int x1), some (.int x2), some (.int x3), some (.int x4), some (.int (x5 + 1)), none]) (st' := []) (fun _ => rfl) ?_
  exact hrec66 (x5 + 1) S _ h
def F_M_want_127 (N : Nat)   (S : pm_S) : Option (Int32 × pm_S) :=
    some (0, S)
set_option maxHeartbeats 4000000 in
set_option maxRecDepth 20000 in
theorem f_M_want_127 (sp : pm_I → List Value → pm_S → pm_O → Prop) (d N : Nat)   (S : pm_S)  (r : (Int32 × pm_S)) (h : F_M_want_127 N   S = some r) : pmE pG (pm_rel pG sp (d + 3)) mi_M_want 127 [none, none, none, none, none, none, none] [] S (some (.int r.1), r.2) := by
  unfold F_M_want_127 at h
  refine pE_jump 1 (pc' := 128) (ls' := [none, none, none, none, none, none, none]) (st' := [.int 0]) (fun _ => rfl) ?_
  cases h
  exact pE_ret rfl rfl rfl
def B_M_want_66 (N : Nat)  (rec66 : Int32 → pm_S → Option (Int32 × pm_S)) (x0 : Nat) (x1 : Int32) (x2 : Int32) (x3 : Int32) (x4 : Int32) (x5 : Int32) (S : pm_S) : Option (Int32 × pm_S) :=
    if 10 ≤ x5 then
    F_M_want_135 N x0 x1 x2 x3 S
    else
    ((F_M_hangsAt N S x0 x5).bind fun (v12, S11) =>
    if x3 = (-1) then
    F_M_want_129 N rec66 x0 x1 x2 x3 x4 x5 S11
    else
    (if x5 = x2 then
    F_M_want_129 N rec66 x0 x1 x2 x3 x4 x5 S11
    else
    (if v12 = (-1) then
    F_M_want_129 N rec66 x0 x1 x2 x3 x4 x5 S11
    else
    (if (v12 / 6) = (x4 / 6) then
    ((oR S11 x0 11 53).bind fun oq13 => match oq13 with
    | none => none
    | some q13 =>
    (aI [0, 6] S11 q13 ((10 * x1) + x5)).bind fun v14 =>
    if v14 = x3 then
    F_M_want_127 N S11
    else
    F_M_want_129 N rec66 x0 x1 x2 x3 x4 x5 S11)
    else
    F_M_want_129 N rec66 x0 x1 x2 x3 x4 x5 S11))))
def F_M_want_66 (N : Nat)  (x0 : Nat) (x1 : Int32) (x2 : Int32) (x3 : Int32) (x4 : Int32) : Nat → Int32 → pm_S → Option (Int32 × pm_S)
  | 0 => fun _ _ => none
  | n + 1 => fun x5 S => B_M_want_66 N  (F_M_want_66 N  x0 x1 x2 x3 x4 n) x0 x1 x2 x3 x4 x5 S
set_option maxHeartbeats 4000000 in
set_option maxRecDepth 20000 in
theorem f_M_want_66 (sp : pm_I → List Value → pm_S → pm_O → Prop) (d N : Nat)  (x0 : Nat) (x1 : Int32) (x2 : Int32) (x3 : Int32) (x4 : Int32)  : ∀ (n : Nat) (x5 : Int32) (S : pm_S) (r : (Int32 × pm_S)), F_M_want_66 N  x0 x1 x2 x3 x4 n x5 S = some r → pmE pG (pm_rel pG sp (d + 3)) mi_M_want 66 [some (.ref x0), some (.int x1), some (.int x2), some (.int x3), some (.int x4), some (.int x5), none] [] S (some (.int r.1), r.2) := by
  intro n
  induction n with
  | zero =>
    intro x5 S r h
    cases h
  | succ n ih =>
    intro x5 S r h
    replace h : B_M_want_66 N  (F_M_want_66 N  x0 x1 x2 x3 x4 n) x0 x1 x2 x3 x4 x5 S = some r := h
    have hrec66 := ih
    generalize F_M_want_66 N  x0 x1 x2 x3 x4 n = rec66 at h hrec66
    unfold B_M_want_66 at h
    refine pE_jump 2 (pc' := 70) (ls' := [some (.ref x0), some (.int x1), some (.int x2), some (.int x3), some (.int x4), some (.int x5), none]) (st' := [.int 10, .int x5]) (fun _ => rfl) ?_
    refine pE_br (10 ≤ x5) rfl rfl (fun c20 => ?_) (fun c20 => ?_)
    · rw [if_pos c20] at h
      refine pE_weak [some (.ref x0), some (.int x1), some (.int x2), some (.int x3), none, none, none] ⟨rfl, ⟨rfl, ⟨rfl, ⟨rfl, trivial⟩⟩⟩⟩ ?_
      exact f_M_want_135 sp d N x0 x1 x2 x3 S _ h
    · rw [if_neg c20] at h
      refine pE_jump 2 (pc' := 76) (ls' := [some (.ref x0), some (.int x1), some (.int x2), some (.int x3), some (.int x4), some (.int x5), none]) (st' := [.int x5, .ref x0]) (fun _ => rfl) ?_
      obtain ⟨⟨v12, S11⟩, hv12, h⟩ := obind h
      try dsimp only at h
      refine pE_iv (Bs := [.int x5]) (st := []) 1 rfl (Or.inl ⟨rfl, rfl⟩) rfl rfl (Nat.le_of_ble_eq_true rfl) (Nat.le_of_ble_eq_true rfl) (g_M_hangsAt hv12) (f_M_hangsAt sp (d + 2) N S x0 x5 _ hv12) ?_
      refine pE_jump 3 (pc' := 83) (ls' := [some (.ref x0), some (.int x1), some (.int x2), some (.int x3), some (.int x4), some (.int x5), some (.int v12)]) (st' := [.int (-1), .int x3]) (fun _ => rfl) ?_
      refine pE_br (x3 = (-1)) rfl rfl (fun c19 => ?_) (fun c19 => ?_)
      · rw [if_pos c19] at h
        refine pE_weak [some (.ref x0), some (.int x1), some (.int x2), some (.int x3), some (.int x4), some (.int x5), none] ⟨rfl, ⟨rfl, ⟨rfl, ⟨rfl, ⟨rfl, ⟨rfl, trivial⟩⟩⟩⟩⟩⟩ ?_
        exact f_M_want_129 sp d N rec66 x0 x1 x2 x3 x4 x5 S11 hrec66 _ h
      · rw [if_neg c19] at h
        refine pE_jump 2 (pc' := 89) (ls' := [some (.ref x0), some (.int x1), some (.int x2), some (.int x3), some (.int x4), some (.int x5), some (.int v12)]) (st' := [.int x2, .int x5]) (fun _ => rfl) ?_
        refine pE_br (x5 = x2) rfl rfl (fun c18 => ?_) (fun c18 => ?_)
        · rw [if_pos c18] at h
          refine pE_weak [some (.ref x0), some (.int x1), some (.int x2), some (.int x3), some (.int x4), some (.int x5), none] ⟨rfl, ⟨rfl, ⟨rfl, ⟨rfl, ⟨rfl, ⟨rfl, trivial⟩⟩⟩⟩⟩⟩ ?_
          exact f_M_want_129 sp d N rec66 x0 x1 x2 x3 x4 x5 S11 hrec66 _ h
        · rw [if_neg c18] at h
          refine pE_jump 2 (pc' := 95) (ls' := [some (.ref x0), some (.int x1), some (.int x2), some (.int x3), some (.int x4), some (.int x5), some (.int v12)]) (st' := [.int (-1), .int v12]) (fun _ => rfl) ?_
          refine pE_br (v12 = (-1)) rfl rfl (fun c17 => ?_) (fun c17 => ?_)
          · rw [if_pos c17] at h
            refine pE_weak [some (.ref x0), some (.int x1), some (.int x2), some (.int x3), some (.int x4), some (.int x5), none] ⟨rfl, ⟨rfl, ⟨rfl, ⟨rfl, ⟨rfl, ⟨rfl, trivial⟩⟩⟩⟩⟩⟩ ?_
            exact f_M_want_129 sp d N rec66 x0 x1 x2 x3 x4 x5 S11 hrec66 _ h
          · rw [if_neg c17] at h
            refine pE_jump 2 (pc' := 102) (ls' := [some (.ref x0), some (.int x1), some (.int x2), some (.int x3), some (.int x4), some (.int x5), some (.int v12)]) (st' := [.int 6, .int v12]) (fun _ => rfl) ?_
            refine pE_jump 1 (pc' := 103) (ls' := [some (.ref x0), some (.int x1), some (.int x2), some (.int x3), some (.int x4), some (.int x5), some (.int v12)]) (st' := [.int (v12 / 6)]) (fun _ => rfl) ?_
            refine pE_jump 2 (pc' := 107) (ls' := [some (.ref x0), some (.int x1), some (.int x2), some (.int x3), some (.int x4), some (.int x5), some (.int v12)]) (st' := [.int 6, .int x4, .int (v12 / 6)]) (fun _ => rfl) ?_
            refine pE_jump 1 (pc' := 108) (ls' := [some (.ref x0), some (.int x1), some (.int x2), some (.int x3), some (.int x4), some (.int x5), some (.int v12)]) (st' := [.int (x4 / 6), .int (v12 / 6)]) (fun _ => rfl) ?_
            refine pE_br (¬ (v12 / 6) = (x4 / 6)) rfl rfl (fun c16 => ?_) (fun c16 => ?_)
            · rw [if_neg c16] at h
              refine pE_weak [some (.ref x0), some (.int x1), some (.int x2), some (.int x3), some (.int x4), some (.int x5), none] ⟨rfl, ⟨rfl, ⟨rfl, ⟨rfl, ⟨rfl, ⟨rfl, trivial⟩⟩⟩⟩⟩⟩ ?_
              exact f_M_want_129 sp d N rec66 x0 x1 x2 x3 x4 x5 S11 hrec66 _ h
            · have c16 := Decidable.not_not.mp c16
              rw [if_pos c16] at h
              refine pE_jump 1 (pc' := 112) (ls' := [some (.ref x0), some (.int x1), some (.int x2), some (.int x3), some (.int x4), some (.int x5), some (.int v12)]) (st' := [.ref x0]) (fun _ => rfl) ?_
              obtain ⟨oq13, hq13, h⟩ := obind h
              cases oq13 with
              | none => cases h
              | some q13 =>
                try dsimp only at h
                refine pE_gfS rfl rfl hq13 ?_
                refine pE_jump 5 (pc' := 122) (ls' := [some (.ref x0), some (.int x1), some (.int x2), some (.int x3), some (.int x4), some (.int x5), some (.int v12)]) (st' := [.int ((10 * x1) + x5), .ref q13]) (fun _ => rfl) ?_
                obtain ⟨v14, hv14, h⟩ := obind h
                refine pE_aI rfl rfl hv14 ?_
                refine pE_jump 1 (pc' := 124) (ls' := [some (.ref x0), some (.int x1), some (.int x2), some (.int x3), some (.int x4), some (.int x5), some (.int v12)]) (st' := [.int x3, .int v14]) (fun _ => rfl) ?_
                refine pE_br (¬ v14 = x3) rfl rfl (fun c15 => ?_) (fun c15 => ?_)
                · rw [if_neg c15] at h
                  refine pE_weak [some (.ref x0), some (.int x1), some (.int x2), some (.int x3), some (.int x4), some (.int x5), none] ⟨rfl, ⟨rfl, ⟨rfl, ⟨rfl, ⟨rfl, ⟨rfl, trivial⟩⟩⟩⟩⟩⟩ ?_
                  exact f_M_want_129 sp d N rec66 x0 x1 x2 x3 x4 x5 S11 hrec66 _ h
                · have c15 := Decidable.not_not.mp c15
                  rw [if_pos c15] at h
                  refine pE_weak [none, none, none, none, none, none, none] trivial ?_
                  exact f_M_want_127 sp d N S11 _ h
def F_M_want_63 (N : Nat)  (x0 : Nat) (x1 : Int32) (x2 : Int32) (x3 : Int32) (x4 : Int32) (S : pm_S) : Option (Int32 × pm_S) :=
    F_M_want_66 N x0 x1 x2 x3 x4 N 0 S
set_option maxHeartbeats 4000000 in
set_option maxRecDepth 20000 in
theorem f_M_want_63 (sp : pm_I → List Value → pm_S → pm_O → Prop) (d N : Nat)  (x0 : Nat) (x1 : Int32) (x2 : Int32) (x3 : Int32) (x4 : Int32) (S : pm_S)  (r : (Int32 × pm_S)) (h : F_M_want_63 N  x0 x1 x2 x3 x4 S = some r) : pmE pG (pm_rel pG sp (d + 3)) mi_M_want 63 [some (.ref x0), some (.int x1), some (.int x2), some (.int x3), some (.int x4), none, none] [] S (some (.int r.1), r.2) := by
  unfold F_M_want_63 at h
  refine pE_jump 2 (pc' := 66) (ls' := [some (.ref x0), some (.int x1), some (.int x2), some (.int x3), some (.int x4), some (.int 0), none]) (st' := []) (fun _ => rfl) ?_
  exact f_M_want_66 sp d N x0 x1 x2 x3 x4 N 0 S _ h
def F_M_want (N : Nat) (S : pm_S) (a : Nat) (p0 : Int32) (p1 : Int32) (p2 : Int32) : Option (Int32 × pm_S) :=
    if rcv S a 11 = true then
    ((wF S a 11 0 .int (.int 0)).bind fun S1 =>
    (F_M_isPlan N S1 a p0).bind fun (v3, S2) =>
    if v3 = 0 then
    F_M_want_20 N S2
    else
    ((F_M_isNumberOfHouse N S2 p1).bind fun (v5, S4) =>
    if v5 = 0 then
    F_M_want_20 N S4
    else
    ((F_M_lay N S4 a p0 0 0).bind fun S6 =>
    (F_M_hangsAt N S6 a p1).bind fun (v8, S7) =>
    if v8 = (-1) then
    F_M_want_61 N S7
    else
    (if p2 = (-1) then
    F_M_want_63 N a p0 p1 p2 v8 S7
    else
    ((F_M_isPair N S7 a p0 (v8 / 6) p2).bind fun (v22, S21) =>
    if v22 = 0 then
    F_M_want_61 N S21
    else
    F_M_want_63 N a p0 p1 p2 v8 S21)))))
    else none
theorem g_M_want {N : Nat} {S : pm_S} {a : Nat} {p0 : Int32} {p1 : Int32} {p2 : Int32} {r : (Int32 × pm_S)} (h : F_M_want N S a p0 p1 p2 = some r) : rcv S a 11 = true := by
  unfold F_M_want at h
  by_cases c : rcv S a 11 = true
  · exact c
  · rw [if_neg c] at h; cases h
set_option maxHeartbeats 4000000 in
set_option maxRecDepth 20000 in
theorem f_M_want (sp : pm_I → List Value → pm_S → pm_O → Prop) (d N : Nat) (S : pm_S) (a : Nat) (p0 : Int32) (p1 : Int32) (p2 : Int32) (r : (Int32 × pm_S)) (h : F_M_want N S a p0 p1 p2 = some r) : pm_rel pG sp (d + 4) mi_M_want [.ref a, .int p0, .int p1, .int p2] S (some (.int r.1), r.2) := by
  have hg := g_M_want h
  unfold F_M_want at h
  rw [if_pos hg] at h
  refine pE_rel (d := d + 3) ?_
  show pmE pG _ mi_M_want 0 [some (.ref a), some (.int p0), some (.int p1), some (.int p2), none, none, none] [] S _
  refine pE_jump 2 (pc' := 2) (ls' := [some (.ref a), some (.int p0), some (.int p1), some (.int p2), none, none, none]) (st' := [.int 0, .ref a]) (fun _ => rfl) ?_
  obtain ⟨S1, hS1, h⟩ := obind h
  refine pE_pf rfl rfl rfl hS1 ?_
  refine pE_jump 2 (pc' := 7) (ls' := [some (.ref a), some (.int p0), some (.int p1), some (.int p2), none, none, none]) (st' := [.int p0, .ref a]) (fun _ => rfl) ?_
  obtain ⟨⟨v3, S2⟩, hv3, h⟩ := obind h
  try dsimp only at h
  refine pE_iv (Bs := [.int p0]) (st := []) 1 rfl (Or.inl ⟨rfl, rfl⟩) rfl rfl (Nat.le_of_ble_eq_true rfl) (Nat.le_of_ble_eq_true rfl) (g_M_isPlan hv3) (f_M_isPlan sp (d + 2) N S1 a p0 _ hv3) ?_
  refine pE_br (v3 = 0) rfl rfl (fun c27 => ?_) (fun c27 => ?_)
  · rw [if_pos c27] at h
    refine pE_weak [none, none, none, none, none, none, none] trivial ?_
    exact f_M_want_20 sp d N S2 _ h
  · rw [if_neg c27] at h
    refine pE_jump 1 (pc' := 14) (ls' := [some (.ref a), some (.int p0), some (.int p1), some (.int p2), none, none, none]) (st' := [.int p1]) (fun _ => rfl) ?_
    obtain ⟨⟨v5, S4⟩, hv5, h⟩ := obind h
    try dsimp only at h
    refine pE_is (Bs := [.int p1]) (st := []) rfl rfl rfl (Nat.le_of_ble_eq_true rfl) (Nat.le_of_ble_eq_true rfl) (f_M_isNumberOfHouse sp (d + 1) N S2 p1 _ hv5) ?_
    refine pE_br (¬ v5 = 0) rfl rfl (fun c26 => ?_) (fun c26 => ?_)
    · rw [if_neg c26] at h
      refine pE_jump 4 (pc' := 26) (ls' := [some (.ref a), some (.int p0), some (.int p1), some (.int p2), none, none, none]) (st' := [.int 0, .int 0, .int p0, .ref a]) (fun _ => rfl) ?_
      obtain ⟨S6, hS6, h⟩ := obind h
      refine pE_iv (Bs := [.int p0, .int 0, .int 0]) (st := []) 1 rfl (Or.inl ⟨rfl, rfl⟩) rfl rfl (Nat.le_of_ble_eq_true rfl) (Nat.le_of_ble_eq_true rfl) (g_M_lay hS6) (f_M_lay sp d N S4 a p0 0 0 _ hS6) ?_
      refine pE_jump 2 (pc' := 31) (ls' := [some (.ref a), some (.int p0), some (.int p1), some (.int p2), none, none, none]) (st' := [.int p1, .ref a]) (fun _ => rfl) ?_
      obtain ⟨⟨v8, S7⟩, hv8, h⟩ := obind h
      try dsimp only at h
      refine pE_iv (Bs := [.int p1]) (st := []) 1 rfl (Or.inl ⟨rfl, rfl⟩) rfl rfl (Nat.le_of_ble_eq_true rfl) (Nat.le_of_ble_eq_true rfl) (g_M_hangsAt hv8) (f_M_hangsAt sp (d + 2) N S6 a p1 _ hv8) ?_
      refine pE_jump 3 (pc' := 39) (ls' := [some (.ref a), some (.int p0), some (.int p1), some (.int p2), some (.int v8), none, none]) (st' := [.int (-1), .int v8]) (fun _ => rfl) ?_
      refine pE_br (v8 = (-1)) rfl rfl (fun c25 => ?_) (fun c25 => ?_)
      · rw [if_pos c25] at h
        refine pE_weak [none, none, none, none, none, none, none] trivial ?_
        exact f_M_want_61 sp d N S7 _ h
      · rw [if_neg c25] at h
        refine pE_jump 2 (pc' := 44) (ls' := [some (.ref a), some (.int p0), some (.int p1), some (.int p2), some (.int v8), none, none]) (st' := [.int (-1), .int p2]) (fun _ => rfl) ?_
        refine pE_br (p2 = (-1)) rfl rfl (fun c24 => ?_) (fun c24 => ?_)
        · rw [if_pos c24] at h
          exact f_M_want_63 sp d N a p0 p1 p2 v8 S7 _ h
        · rw [if_neg c24] at h
          refine pE_jump 4 (pc' := 53) (ls' := [some (.ref a), some (.int p0), some (.int p1), some (.int p2), some (.int v8), none, none]) (st' := [.int 6, .int v8, .int p0, .ref a]) (fun _ => rfl) ?_
          refine pE_jump 1 (pc' := 54) (ls' := [some (.ref a), some (.int p0), some (.int p1), some (.int p2), some (.int v8), none, none]) (st' := [.int (v8 / 6), .int p0, .ref a]) (fun _ => rfl) ?_
          refine pE_jump 1 (pc' := 55) (ls' := [some (.ref a), some (.int p0), some (.int p1), some (.int p2), some (.int v8), none, none]) (st' := [.int p2, .int (v8 / 6), .int p0, .ref a]) (fun _ => rfl) ?_
          obtain ⟨⟨v22, S21⟩, hv22, h⟩ := obind h
          try dsimp only at h
          refine pE_iv (Bs := [.int p0, .int (v8 / 6), .int p2]) (st := []) 1 rfl (Or.inl ⟨rfl, rfl⟩) rfl rfl (Nat.le_of_ble_eq_true rfl) (Nat.le_of_ble_eq_true rfl) (g_M_isPair hv22) (f_M_isPair sp d N S7 a p0 (v8 / 6) p2 _ hv22) ?_
          refine pE_br (¬ v22 = 0) rfl rfl (fun c23 => ?_) (fun c23 => ?_)
          · rw [if_neg c23] at h
            exact f_M_want_63 sp d N a p0 p1 p2 v8 S21 _ h
          · have c23 := Decidable.not_not.mp c23
            rw [if_pos c23] at h
            refine pE_weak [none, none, none, none, none, none, none] trivial ?_
            exact f_M_want_61 sp d N S21 _ h
    · have c26 := Decidable.not_not.mp c26
      rw [if_pos c26] at h
      refine pE_weak [none, none, none, none, none, none, none] trivial ?_
      exact f_M_want_20 sp d N S4 _ h
def F_M_pairOf_31 (N : Nat)   (S : pm_S) : Option (Int32 × pm_S) :=
    some ((-1), S)
set_option maxHeartbeats 4000000 in
set_option maxRecDepth 20000 in
theorem f_M_pairOf_31 (sp : pm_I → List Value → pm_S → pm_O → Prop) (d N : Nat)   (S : pm_S)  (r : (Int32 × pm_S)) (h : F_M_pairOf_31 N   S = some r) : pmE pG (pm_rel pG sp (d + 0)) mi_M_pairOf 31 [none, none, none, none] [] S (some (.int r.1), r.2) := by
  unfold F_M_pairOf_31 at h
  refine pE_jump 1 (pc' := 32) (ls' := [none, none, none, none]) (st' := [.int (-1)]) (fun _ => rfl) ?_
  cases h
  exact pE_ret rfl rfl rfl
def F_M_pairOf_23 (N : Nat)  (x3 : Int32) (S : pm_S) : Option (Int32 × pm_S) :=
    some (x3, S)
set_option maxHeartbeats 4000000 in
set_option maxRecDepth 20000 in
theorem f_M_pairOf_23 (sp : pm_I → List Value → pm_S → pm_O → Prop) (d N : Nat)  (x3 : Int32) (S : pm_S)  (r : (Int32 × pm_S)) (h : F_M_pairOf_23 N  x3 S = some r) : pmE pG (pm_rel pG sp (d + 0)) mi_M_pairOf 23 [none, none, none, some (.int x3)] [] S (some (.int r.1), r.2) := by
  unfold F_M_pairOf_23 at h
  refine pE_jump 1 (pc' := 24) (ls' := [none, none, none, some (.int x3)]) (st' := [.int x3]) (fun _ => rfl) ?_
  cases h
  exact pE_ret rfl rfl rfl
def B_M_pairOf_2 (N : Nat)  (rec2 : Int32 → pm_S → Option (Int32 × pm_S)) (x0 : Nat) (x1 : Int32) (x2 : Int32) (x3 : Int32) (S : pm_S) : Option (Int32 × pm_S) :=
    if 6 ≤ x3 then
    F_M_pairOf_31 N S
    else
    ((oR S x0 11 27).bind fun oq1 => match oq1 with
    | none => none
    | some q1 =>
    (aI [0, 6] S q1 ((6 * x1) + x3)).bind fun v2 =>
    if v2 = x2 then
    F_M_pairOf_23 N x3 S
    else
    rec2 (x3 + 1) S)
def F_M_pairOf_2 (N : Nat)  (x0 : Nat) (x1 : Int32) (x2 : Int32) : Nat → Int32 → pm_S → Option (Int32 × pm_S)
  | 0 => fun _ _ => none
  | n + 1 => fun x3 S => B_M_pairOf_2 N  (F_M_pairOf_2 N  x0 x1 x2 n) x0 x1 x2 x3 S
set_option maxHeartbeats 4000000 in
set_option maxRecDepth 20000 in
theorem f_M_pairOf_2 (sp : pm_I → List Value → pm_S → pm_O → Prop) (d N : Nat)  (x0 : Nat) (x1 : Int32) (x2 : Int32)  : ∀ (n : Nat) (x3 : Int32) (S : pm_S) (r : (Int32 × pm_S)), F_M_pairOf_2 N  x0 x1 x2 n x3 S = some r → pmE pG (pm_rel pG sp (d + 0)) mi_M_pairOf 2 [some (.ref x0), some (.int x1), some (.int x2), some (.int x3)] [] S (some (.int r.1), r.2) := by
  intro n
  induction n with
  | zero =>
    intro x3 S r h
    cases h
  | succ n ih =>
    intro x3 S r h
    replace h : B_M_pairOf_2 N  (F_M_pairOf_2 N  x0 x1 x2 n) x0 x1 x2 x3 S = some r := h
    have hrec2 := ih
    generalize F_M_pairOf_2 N  x0 x1 x2 n = rec2 at h hrec2
    unfold B_M_pairOf_2 at h
    refine pE_jump 2 (pc' := 5) (ls' := [some (.ref x0), some (.int x1), some (.int x2), some (.int x3)]) (st' := [.int 6, .int x3]) (fun _ => rfl) ?_
    refine pE_br (6 ≤ x3) rfl rfl (fun c4 => ?_) (fun c4 => ?_)
    · rw [if_pos c4] at h
      refine pE_weak [none, none, none, none] trivial ?_
      exact f_M_pairOf_31 sp d N S _ h
    · rw [if_neg c4] at h
      refine pE_jump 1 (pc' := 9) (ls' := [some (.ref x0), some (.int x1), some (.int x2), some (.int x3)]) (st' := [.ref x0]) (fun _ => rfl) ?_
      obtain ⟨oq1, hq1, h⟩ := obind h
      cases oq1 with
      | none => cases h
      | some q1 =>
        try dsimp only at h
        refine pE_gfS rfl rfl hq1 ?_
        refine pE_jump 5 (pc' := 18) (ls' := [some (.ref x0), some (.int x1), some (.int x2), some (.int x3)]) (st' := [.int ((6 * x1) + x3), .ref q1]) (fun _ => rfl) ?_
        obtain ⟨v2, hv2, h⟩ := obind h
        refine pE_aI rfl rfl hv2 ?_
        refine pE_jump 1 (pc' := 20) (ls' := [some (.ref x0), some (.int x1), some (.int x2), some (.int x3)]) (st' := [.int x2, .int v2]) (fun _ => rfl) ?_
        refine pE_br (¬ v2 = x2) rfl rfl (fun c3 => ?_) (fun c3 => ?_)
        · rw [if_neg c3] at h
          refine pE_jump 2 (pc' := 2) (ls' := [some (.ref x0), some (.int x1), some (.int x2), some (.int (x3 + 1))]) (st' := []) (fun _ => rfl) ?_
          exact hrec2 (x3 + 1) S _ h
        · have c3 := Decidable.not_not.mp c3
          rw [if_pos c3] at h
          refine pE_weak [none, none, none, some (.int x3)] ⟨rfl, trivial⟩ ?_
          exact f_M_pairOf_23 sp d N x3 S _ h
def F_M_pairOf (N : Nat) (S : pm_S) (a : Nat) (p0 : Int32) (p1 : Int32) : Option (Int32 × pm_S) :=
    if rcv S a 11 = true then
    (F_M_pairOf_2 N a p0 p1 N 0 S)
    else none
theorem g_M_pairOf {N : Nat} {S : pm_S} {a : Nat} {p0 : Int32} {p1 : Int32} {r : (Int32 × pm_S)} (h : F_M_pairOf N S a p0 p1 = some r) : rcv S a 11 = true := by
  unfold F_M_pairOf at h
  by_cases c : rcv S a 11 = true
  · exact c
  · rw [if_neg c] at h; cases h
set_option maxHeartbeats 4000000 in
set_option maxRecDepth 20000 in
theorem f_M_pairOf (sp : pm_I → List Value → pm_S → pm_O → Prop) (d N : Nat) (S : pm_S) (a : Nat) (p0 : Int32) (p1 : Int32) (r : (Int32 × pm_S)) (h : F_M_pairOf N S a p0 p1 = some r) : pm_rel pG sp (d + 1) mi_M_pairOf [.ref a, .int p0, .int p1] S (some (.int r.1), r.2) := by
  have hg := g_M_pairOf h
  unfold F_M_pairOf at h
  rw [if_pos hg] at h
  refine pE_rel (d := d + 0) ?_
  show pmE pG _ mi_M_pairOf 0 [some (.ref a), some (.int p0), some (.int p1), none] [] S _
  refine pE_jump 2 (pc' := 2) (ls' := [some (.ref a), some (.int p0), some (.int p1), some (.int 0)]) (st' := []) (fun _ => rfl) ?_
  exact f_M_pairOf_2 sp d N a p0 p1 N 0 S _ h
def F_M_isAstray_45 (N : Nat)  (t0 : Int32) (S : pm_S) : Option (Int32 × pm_S) :=
    if t0 = 0 ∨ t0 = 1 then some (t0, S) else none
set_option maxHeartbeats 4000000 in
set_option maxRecDepth 20000 in
theorem f_M_isAstray_45 (sp : pm_I → List Value → pm_S → pm_O → Prop) (d N : Nat)  (t0 : Int32) (S : pm_S)  (r : (Int32 × pm_S)) (h : F_M_isAstray_45 N  t0 S = some r) : pmE pG (pm_rel pG sp (d + 1)) mi_M_isAstray 45 [none, none, none, none] [.int t0] S (some (.int r.1), r.2) := by
  unfold F_M_isAstray_45 at h
  by_cases c5 : t0 = 0 ∨ t0 = 1
  · rw [if_pos c5] at h
    cases h
    exact pE_ret rfl (if_pos c5) rfl
  · rw [if_neg c5] at h
    cases h
def F_M_isAstray_44 (N : Nat)   (S : pm_S) : Option (Int32 × pm_S) :=
    F_M_isAstray_45 N 0 S
set_option maxHeartbeats 4000000 in
set_option maxRecDepth 20000 in
theorem f_M_isAstray_44 (sp : pm_I → List Value → pm_S → pm_O → Prop) (d N : Nat)   (S : pm_S)  (r : (Int32 × pm_S)) (h : F_M_isAstray_44 N   S = some r) : pmE pG (pm_rel pG sp (d + 1)) mi_M_isAstray 44 [none, none, none, none] [] S (some (.int r.1), r.2) := by
  unfold F_M_isAstray_44 at h
  refine pE_jump 1 (pc' := 45) (ls' := [none, none, none, none]) (st' := [.int 0]) (fun _ => rfl) ?_
  exact f_M_isAstray_45 sp d N 0 S _ h
def F_M_isAstray (N : Nat) (S : pm_S) (a : Nat) (p0 : Int32) (p1 : Int32) : Option (Int32 × pm_S) :=
    if rcv S a 11 = true then
    ((oR S a 11 53).bind fun oq1 => match oq1 with
    | none => none
    | some q1 =>
    (oI S a 11 29).bind fun v3 =>
    (aI [0, 6] S q1 ((10 * v3) + p1)).bind fun v4 =>
    if v4 = (-1) then
    F_M_isAstray_44 N S
    else
    ((F_M_pairOf N S a p0 p1).bind fun (v7, S6) =>
    if v7 = (-1) then
    F_M_isAstray_44 N S6
    else
    ((F_M_pairOf N S6 a p0 p1).bind fun (v9, S8) =>
    if v9 = v4 then
    F_M_isAstray_44 N S8
    else
    F_M_isAstray_45 N 1 S8)))
    else none
theorem g_M_isAstray {N : Nat} {S : pm_S} {a : Nat} {p0 : Int32} {p1 : Int32} {r : (Int32 × pm_S)} (h : F_M_isAstray N S a p0 p1 = some r) : rcv S a 11 = true := by
  unfold F_M_isAstray at h
  by_cases c : rcv S a 11 = true
  · exact c
  · rw [if_neg c] at h; cases h
set_option maxHeartbeats 4000000 in
set_option maxRecDepth 20000 in
theorem f_M_isAstray (sp : pm_I → List Value → pm_S → pm_O → Prop) (d N : Nat) (S : pm_S) (a : Nat) (p0 : Int32) (p1 : Int32) (r : (Int32 × pm_S)) (h : F_M_isAstray N S a p0 p1 = some r) : pm_rel pG sp (d + 2) mi_M_isAstray [.ref a, .int p0, .int p1] S (some (.int r.1), r.2) := by
  have hg := g_M_isAstray h
  unfold F_M_isAstray at h
  rw [if_pos hg] at h
  refine pE_rel (d := d + 1) ?_
  show pmE pG _ mi_M_isAstray 0 [some (.ref a), some (.int p0), some (.int p1), none] [] S _
  refine pE_jump 1 (pc' := 1) (ls' := [some (.ref a), some (.int p0), some (.int p1), none]) (st' := [.ref a]) (fun _ => rfl) ?_
  obtain ⟨oq1, hq1, h⟩ := obind h
  cases oq1 with
  | none => cases h
  | some q1 =>
    try dsimp only at h
    refine pE_gfS rfl rfl hq1 ?_
    refine pE_jump 2 (pc' := 7) (ls' := [some (.ref a), some (.int p0), some (.int p1), none]) (st' := [.ref a, .int 10, .ref q1]) (fun _ => rfl) ?_
    obtain ⟨v3, hv3, h⟩ := obind h
    refine pE_gfI rfl rfl hv3 ?_
    refine pE_jump 3 (pc' := 13) (ls' := [some (.ref a), some (.int p0), some (.int p1), none]) (st' := [.int ((10 * v3) + p1), .ref q1]) (fun _ => rfl) ?_
    obtain ⟨v4, hv4, h⟩ := obind h
    refine pE_aI rfl rfl hv4 ?_
    refine pE_jump 3 (pc' := 17) (ls' := [some (.ref a), some (.int p0), some (.int p1), some (.int v4)]) (st' := [.int (-1), .int v4]) (fun _ => rfl) ?_
    refine pE_br (v4 = (-1)) rfl rfl (fun c12 => ?_) (fun c12 => ?_)
    · rw [if_pos c12] at h
      refine pE_weak [none, none, none, none] trivial ?_
      exact f_M_isAstray_44 sp d N S _ h
    · rw [if_neg c12] at h
      refine pE_jump 3 (pc' := 23) (ls' := [some (.ref a), some (.int p0), some (.int p1), some (.int v4)]) (st' := [.int p1, .int p0, .ref a]) (fun _ => rfl) ?_
      obtain ⟨⟨v7, S6⟩, hv7, h⟩ := obind h
      try dsimp only at h
      refine pE_iv (Bs := [.int p0, .int p1]) (st := []) 1 rfl (Or.inl ⟨rfl, rfl⟩) rfl rfl (Nat.le_of_ble_eq_true rfl) (Nat.le_of_ble_eq_true rfl) (g_M_pairOf hv7) (f_M_pairOf sp d N S a p0 p1 _ hv7) ?_
      refine pE_jump 1 (pc' := 27) (ls' := [some (.ref a), some (.int p0), some (.int p1), some (.int v4)]) (st' := [.int (-1), .int v7]) (fun _ => rfl) ?_
      refine pE_br (v7 = (-1)) rfl rfl (fun c11 => ?_) (fun c11 => ?_)
      · rw [if_pos c11] at h
        refine pE_weak [none, none, none, none] trivial ?_
        exact f_M_isAstray_44 sp d N S6 _ h
      · rw [if_neg c11] at h
        refine pE_jump 3 (pc' := 33) (ls' := [some (.ref a), some (.int p0), some (.int p1), some (.int v4)]) (st' := [.int p1, .int p0, .ref a]) (fun _ => rfl) ?_
        obtain ⟨⟨v9, S8⟩, hv9, h⟩ := obind h
        try dsimp only at h
        refine pE_iv (Bs := [.int p0, .int p1]) (st := []) 1 rfl (Or.inl ⟨rfl, rfl⟩) rfl rfl (Nat.le_of_ble_eq_true rfl) (Nat.le_of_ble_eq_true rfl) (g_M_pairOf hv9) (f_M_pairOf sp d N S6 a p0 p1 _ hv9) ?_
        refine pE_jump 1 (pc' := 37) (ls' := [some (.ref a), some (.int p0), some (.int p1), some (.int v4)]) (st' := [.int v4, .int v9]) (fun _ => rfl) ?_
        refine pE_br (v9 = v4) rfl rfl (fun c10 => ?_) (fun c10 => ?_)
        · rw [if_pos c10] at h
          refine pE_weak [none, none, none, none] trivial ?_
          exact f_M_isAstray_44 sp d N S8 _ h
        · rw [if_neg c10] at h
          refine pE_jump 2 (pc' := 45) (ls' := [some (.ref a), some (.int p0), some (.int p1), some (.int v4)]) (st' := [.int 1]) (fun _ => rfl) ?_
          refine pE_weak [none, none, none, none] trivial ?_
          exact f_M_isAstray_45 sp d N 1 S8 _ h
def F_M_isFree_53 (N : Nat)  (t0 : Int32) (S : pm_S) : Option (Int32 × pm_S) :=
    if t0 = 0 ∨ t0 = 1 then some (t0, S) else none
set_option maxHeartbeats 4000000 in
set_option maxRecDepth 20000 in
theorem f_M_isFree_53 (sp : pm_I → List Value → pm_S → pm_O → Prop) (d N : Nat)  (t0 : Int32) (S : pm_S)  (r : (Int32 × pm_S)) (h : F_M_isFree_53 N  t0 S = some r) : pmE pG (pm_rel pG sp (d + 1)) mi_M_isFree 53 [none, none, none] [.int t0] S (some (.int r.1), r.2) := by
  unfold F_M_isFree_53 at h
  by_cases c7 : t0 = 0 ∨ t0 = 1
  · rw [if_pos c7] at h
    cases h
    exact pE_ret rfl (if_pos c7) rfl
  · rw [if_neg c7] at h
    cases h
def F_M_isFree_52 (N : Nat)   (S : pm_S) : Option (Int32 × pm_S) :=
    F_M_isFree_53 N 0 S
set_option maxHeartbeats 4000000 in
set_option maxRecDepth 20000 in
theorem f_M_isFree_52 (sp : pm_I → List Value → pm_S → pm_O → Prop) (d N : Nat)   (S : pm_S)  (r : (Int32 × pm_S)) (h : F_M_isFree_52 N   S = some r) : pmE pG (pm_rel pG sp (d + 1)) mi_M_isFree 52 [none, none, none] [] S (some (.int r.1), r.2) := by
  unfold F_M_isFree_52 at h
  refine pE_jump 1 (pc' := 53) (ls' := [none, none, none]) (st' := [.int 0]) (fun _ => rfl) ?_
  exact f_M_isFree_53 sp d N 0 S _ h
def F_M_isFree (N : Nat) (S : pm_S) (a : Nat) (p0 : Int32) (p1 : Int32) : Option (Int32 × pm_S) :=
    if rcv S a 11 = true then
    ((oR S a 11 10).bind fun oq1 => match oq1 with
    | none => none
    | some q1 =>
    (oI S a 11 29).bind fun v3 =>
    (aI [0, 6] S q1 ((7 * v3) + p0)).bind fun v4 =>
    (F_M_isIn N S p1 0 (v4 - 1)).bind fun (v6, S5) =>
    if v6 = 0 then
    F_M_isFree_52 N S5
    else
    ((oR S5 a 11 54).bind fun oq8 => match oq8 with
    | none => none
    | some q8 =>
    (aI [2, 3] S5 q8 p1).bind fun v9 =>
    if v9 = 0 then
    F_M_isFree_52 N S5
    else
    ((oR S5 a 11 27).bind fun oq10 => match oq10 with
    | none => none
    | some q10 =>
    (aI [0, 6] S5 q10 ((6 * p0) + p1)).bind fun v11 =>
    if v11 = (-1) then
    F_M_isFree_53 N 1 S5
    else
    F_M_isFree_52 N S5)))
    else none
theorem g_M_isFree {N : Nat} {S : pm_S} {a : Nat} {p0 : Int32} {p1 : Int32} {r : (Int32 × pm_S)} (h : F_M_isFree N S a p0 p1 = some r) : rcv S a 11 = true := by
  unfold F_M_isFree at h
  by_cases c : rcv S a 11 = true
  · exact c
  · rw [if_neg c] at h; cases h
set_option maxHeartbeats 4000000 in
set_option maxRecDepth 20000 in
theorem f_M_isFree (sp : pm_I → List Value → pm_S → pm_O → Prop) (d N : Nat) (S : pm_S) (a : Nat) (p0 : Int32) (p1 : Int32) (r : (Int32 × pm_S)) (h : F_M_isFree N S a p0 p1 = some r) : pm_rel pG sp (d + 2) mi_M_isFree [.ref a, .int p0, .int p1] S (some (.int r.1), r.2) := by
  have hg := g_M_isFree h
  unfold F_M_isFree at h
  rw [if_pos hg] at h
  refine pE_rel (d := d + 1) ?_
  show pmE pG _ mi_M_isFree 0 [some (.ref a), some (.int p0), some (.int p1)] [] S _
  refine pE_jump 3 (pc' := 3) (ls' := [some (.ref a), some (.int p0), some (.int p1)]) (st' := [.ref a, .int 0, .int p1]) (fun _ => rfl) ?_
  obtain ⟨oq1, hq1, h⟩ := obind h
  cases oq1 with
  | none => cases h
  | some q1 =>
    try dsimp only at h
    refine pE_gfS rfl rfl hq1 ?_
    refine pE_jump 2 (pc' := 9) (ls' := [some (.ref a), some (.int p0), some (.int p1)]) (st' := [.ref a, .int 7, .ref q1, .int 0, .int p1]) (fun _ => rfl) ?_
    obtain ⟨v3, hv3, h⟩ := obind h
    refine pE_gfI rfl rfl hv3 ?_
    refine pE_jump 3 (pc' := 15) (ls' := [some (.ref a), some (.int p0), some (.int p1)]) (st' := [.int ((7 * v3) + p0), .ref q1, .int 0, .int p1]) (fun _ => rfl) ?_
    obtain ⟨v4, hv4, h⟩ := obind h
    refine pE_aI rfl rfl hv4 ?_
    refine pE_jump 2 (pc' := 18) (ls' := [some (.ref a), some (.int p0), some (.int p1)]) (st' := [.int (v4 - 1), .int 0, .int p1]) (fun _ => rfl) ?_
    obtain ⟨⟨v6, S5⟩, hv6, h⟩ := obind h
    try dsimp only at h
    refine pE_is (Bs := [.int p1, .int 0, .int (v4 - 1)]) (st := []) rfl rfl rfl (Nat.le_of_ble_eq_true rfl) (Nat.le_of_ble_eq_true rfl) (f_M_isIn sp d N S p1 0 (v4 - 1) _ hv6) ?_
    refine pE_br (v6 = 0) rfl rfl (fun c14 => ?_) (fun c14 => ?_)
    · rw [if_pos c14] at h
      refine pE_weak [none, none, none] trivial ?_
      exact f_M_isFree_52 sp d N S5 _ h
    · rw [if_neg c14] at h
      refine pE_jump 1 (pc' := 25) (ls' := [some (.ref a), some (.int p0), some (.int p1)]) (st' := [.ref a]) (fun _ => rfl) ?_
      obtain ⟨oq8, hq8, h⟩ := obind h
      cases oq8 with
      | none => cases h
      | some q8 =>
        try dsimp only at h
        refine pE_gfS rfl rfl hq8 ?_
        refine pE_jump 1 (pc' := 29) (ls' := [some (.ref a), some (.int p0), some (.int p1)]) (st' := [.int p1, .ref q8]) (fun _ => rfl) ?_
        obtain ⟨v9, hv9, h⟩ := obind h
        refine pE_aI rfl rfl hv9 ?_
        refine pE_br (v9 = 0) rfl rfl (fun c13 => ?_) (fun c13 => ?_)
        · rw [if_pos c13] at h
          refine pE_weak [none, none, none] trivial ?_
          exact f_M_isFree_52 sp d N S5 _ h
        · rw [if_neg c13] at h
          refine pE_jump 1 (pc' := 34) (ls' := [some (.ref a), some (.int p0), some (.int p1)]) (st' := [.ref a]) (fun _ => rfl) ?_
          obtain ⟨oq10, hq10, h⟩ := obind h
          cases oq10 with
          | none => cases h
          | some q10 =>
            try dsimp only at h
            refine pE_gfS rfl rfl hq10 ?_
            refine pE_jump 5 (pc' := 43) (ls' := [some (.ref a), some (.int p0), some (.int p1)]) (st' := [.int ((6 * p0) + p1), .ref q10]) (fun _ => rfl) ?_
            obtain ⟨v11, hv11, h⟩ := obind h
            refine pE_aI rfl rfl hv11 ?_
            refine pE_jump 1 (pc' := 45) (ls' := [some (.ref a), some (.int p0), some (.int p1)]) (st' := [.int (-1), .int v11]) (fun _ => rfl) ?_
            refine pE_br (¬ v11 = (-1)) rfl rfl (fun c12 => ?_) (fun c12 => ?_)
            · rw [if_neg c12] at h
              refine pE_weak [none, none, none] trivial ?_
              exact f_M_isFree_52 sp d N S5 _ h
            · have c12 := Decidable.not_not.mp c12
              rw [if_pos c12] at h
              refine pE_jump 2 (pc' := 53) (ls' := [some (.ref a), some (.int p0), some (.int p1)]) (st' := [.int 1]) (fun _ => rfl) ?_
              refine pE_weak [none, none, none] trivial ?_
              exact f_M_isFree_53 sp d N 1 S5 _ h
def F_M_goes (N : Nat) (S : pm_S) (a : Nat) (p0 : Int32) (p1 : Int32) (p2 : Int32) : Option pm_S :=
    if rcv S a 11 = true then
    ((F_M_unhang N S a p1).bind fun S1 =>
    (oR S1 a 11 27).bind fun oq2 => match oq2 with
    | none => none
    | some q2 =>
    (sI [0] S1 q2 ((6 * p0) + p2) p1).bind fun S3 =>
    (oR S3 a 11 56).bind fun oq4 => match oq4 with
    | none => none
    | some q4 =>
    (oI S3 a 11 57).bind fun v6 =>
    (sI [0] S3 q4 v6 ((8 * p1) + p2)).bind fun S7 =>
    (oI S7 a 11 57).bind fun v8 =>
    (wF S7 a 11 57 .int (.int (v8 + 1))).bind fun S9 =>
    some S9)
    else none
theorem g_M_goes {N : Nat} {S : pm_S} {a : Nat} {p0 : Int32} {p1 : Int32} {p2 : Int32} {r : pm_S} (h : F_M_goes N S a p0 p1 p2 = some r) : rcv S a 11 = true := by
  unfold F_M_goes at h
  by_cases c : rcv S a 11 = true
  · exact c
  · rw [if_neg c] at h; cases h
set_option maxHeartbeats 4000000 in
set_option maxRecDepth 20000 in
theorem f_M_goes (sp : pm_I → List Value → pm_S → pm_O → Prop) (d N : Nat) (S : pm_S) (a : Nat) (p0 : Int32) (p1 : Int32) (p2 : Int32) (r : pm_S) (h : F_M_goes N S a p0 p1 p2 = some r) : pm_rel pG sp (d + 2) mi_M_goes [.ref a, .int p0, .int p1, .int p2] S (none, r) := by
  have hg := g_M_goes h
  unfold F_M_goes at h
  rw [if_pos hg] at h
  refine pE_rel (d := d + 1) ?_
  show pmE pG _ mi_M_goes 0 [some (.ref a), some (.int p0), some (.int p1), some (.int p2)] [] S _
  refine pE_jump 2 (pc' := 2) (ls' := [some (.ref a), some (.int p0), some (.int p1), some (.int p2)]) (st' := [.int p1, .ref a]) (fun _ => rfl) ?_
  obtain ⟨S1, hS1, h⟩ := obind h
  refine pE_iv (Bs := [.int p1]) (st := []) 1 rfl (Or.inl ⟨rfl, rfl⟩) rfl rfl (Nat.le_of_ble_eq_true rfl) (Nat.le_of_ble_eq_true rfl) (g_M_unhang hS1) (f_M_unhang sp d N S a p1 _ hS1) ?_
  refine pE_jump 1 (pc' := 6) (ls' := [some (.ref a), some (.int p0), some (.int p1), some (.int p2)]) (st' := [.ref a]) (fun _ => rfl) ?_
  obtain ⟨oq2, hq2, h⟩ := obind h
  cases oq2 with
  | none => cases h
  | some q2 =>
    try dsimp only at h
    refine pE_gfS rfl rfl hq2 ?_
    refine pE_jump 6 (pc' := 16) (ls' := [some (.ref a), some (.int p0), some (.int p1), some (.int p2)]) (st' := [.int p1, .int ((6 * p0) + p2), .ref q2]) (fun _ => rfl) ?_
    obtain ⟨S3, hS3, h⟩ := obind h
    refine pE_sI rfl rfl hS3 ?_
    refine pE_jump 1 (pc' := 18) (ls' := [some (.ref a), some (.int p0), some (.int p1), some (.int p2)]) (st' := [.ref a]) (fun _ => rfl) ?_
    obtain ⟨oq4, hq4, h⟩ := obind h
    cases oq4 with
    | none => cases h
    | some q4 =>
      try dsimp only at h
      refine pE_gfS rfl rfl hq4 ?_
      refine pE_jump 1 (pc' := 22) (ls' := [some (.ref a), some (.int p0), some (.int p1), some (.int p2)]) (st' := [.ref a, .ref q4]) (fun _ => rfl) ?_
      obtain ⟨v6, hv6, h⟩ := obind h
      refine pE_gfI rfl rfl hv6 ?_
      refine pE_jump 5 (pc' := 31) (ls' := [some (.ref a), some (.int p0), some (.int p1), some (.int p2)]) (st' := [.int ((8 * p1) + p2), .int v6, .ref q4]) (fun _ => rfl) ?_
      obtain ⟨S7, hS7, h⟩ := obind h
      refine pE_sI rfl rfl hS7 ?_
      refine pE_jump 2 (pc' := 34) (ls' := [some (.ref a), some (.int p0), some (.int p1), some (.int p2)]) (st' := [.ref a, .ref a]) (fun _ => rfl) ?_
      obtain ⟨v8, hv8, h⟩ := obind h
      refine pE_gfI rfl rfl hv8 ?_
      refine pE_jump 2 (pc' := 39) (ls' := [some (.ref a), some (.int p0), some (.int p1), some (.int p2)]) (st' := [.int (v8 + 1), .ref a]) (fun _ => rfl) ?_
      obtain ⟨S9, hS9, h⟩ := obind h
      refine pE_pf rfl rfl rfl hS9 ?_
      cases h
      exact pE_ret rfl rfl rfl
def F_M_goesHome_70 (N : Nat)   (S : pm_S) : Option (Int32 × pm_S) :=
    some (0, S)
set_option maxHeartbeats 4000000 in
set_option maxRecDepth 20000 in
theorem f_M_goesHome_70 (sp : pm_I → List Value → pm_S → pm_O → Prop) (d N : Nat)   (S : pm_S)  (r : (Int32 × pm_S)) (h : F_M_goesHome_70 N   S = some r) : pmE pG (pm_rel pG sp (d + 2)) mi_M_goesHome 70 [none, none, none] [] S (some (.int r.1), r.2) := by
  unfold F_M_goesHome_70 at h
  refine pE_jump 1 (pc' := 71) (ls' := [none, none, none]) (st' := [.int 0]) (fun _ => rfl) ?_
  cases h
  exact pE_ret rfl rfl rfl
def F_M_goesHome_64 (N : Nat) (rec2 : Int32 → pm_S → Option (Int32 × pm_S)) (x0 : Nat) (x1 : Int32) (x2 : Int32) (S : pm_S) : Option (Int32 × pm_S) :=
    rec2 (x2 + 1) S
set_option maxHeartbeats 4000000 in
set_option maxRecDepth 20000 in
theorem f_M_goesHome_64 (sp : pm_I → List Value → pm_S → pm_O → Prop) (d N : Nat) (rec2 : Int32 → pm_S → Option (Int32 × pm_S)) (x0 : Nat) (x1 : Int32) (x2 : Int32) (S : pm_S) (hrec2 : ∀ (y1 : Int32) (U : pm_S) (r : (Int32 × pm_S)), rec2 y1 U = some r → pmE pG (pm_rel pG sp (d + 2)) mi_M_goesHome 2 [some (.ref x0), some (.int x1), some (.int y1)] [] U (some (.int r.1), r.2)) (r : (Int32 × pm_S)) (h : F_M_goesHome_64 N rec2 x0 x1 x2 S = some r) : pmE pG (pm_rel pG sp (d + 2)) mi_M_goesHome 64 [some (.ref x0), some (.int x1), some (.int x2)] [] S (some (.int r.1), r.2) := by
  unfold F_M_goesHome_64 at h
  refine pE_jump 2 (pc' := 2) (ls' := [some (.ref x0), some (.int x1), some (.int (x2 + 1))]) (st' := []) (fun _ => rfl) ?_
  exact hrec2 (x2 + 1) S _ h
def F_M_goesHome_42 (N : Nat)  (x0 : Nat) (x1 : Int32) (x2 : Int32) (S : pm_S) : Option (Int32 × pm_S) :=
    (oR S x0 11 53).bind fun oq9 => match oq9 with
    | none => none
    | some q9 =>
    (oI S x0 11 29).bind fun v11 =>
    (aI [0, 6] S q9 ((10 * v11) + x2)).bind fun v12 =>
    (F_M_goes N S x0 x1 x2 v12).bind fun S13 =>
    some (1, S13)
set_option maxHeartbeats 4000000 in
set_option maxRecDepth 20000 in
theorem f_M_goesHome_42 (sp : pm_I → List Value → pm_S → pm_O → Prop) (d N : Nat)  (x0 : Nat) (x1 : Int32) (x2 : Int32) (S : pm_S)  (r : (Int32 × pm_S)) (h : F_M_goesHome_42 N  x0 x1 x2 S = some r) : pmE pG (pm_rel pG sp (d + 2)) mi_M_goesHome 42 [some (.ref x0), some (.int x1), some (.int x2)] [] S (some (.int r.1), r.2) := by
  unfold F_M_goesHome_42 at h
  refine pE_jump 4 (pc' := 46) (ls' := [some (.ref x0), some (.int x1), some (.int x2)]) (st' := [.ref x0, .int x2, .int x1, .ref x0]) (fun _ => rfl) ?_
  obtain ⟨oq9, hq9, h⟩ := obind h
  cases oq9 with
  | none => cases h
  | some q9 =>
    try dsimp only at h
    refine pE_gfS rfl rfl hq9 ?_
    refine pE_jump 2 (pc' := 52) (ls' := [some (.ref x0), some (.int x1), some (.int x2)]) (st' := [.ref x0, .int 10, .ref q9, .int x2, .int x1, .ref x0]) (fun _ => rfl) ?_
    obtain ⟨v11, hv11, h⟩ := obind h
    refine pE_gfI rfl rfl hv11 ?_
    refine pE_jump 3 (pc' := 58) (ls' := [some (.ref x0), some (.int x1), some (.int x2)]) (st' := [.int ((10 * v11) + x2), .ref q9, .int x2, .int x1, .ref x0]) (fun _ => rfl) ?_
    obtain ⟨v12, hv12, h⟩ := obind h
    refine pE_aI rfl rfl hv12 ?_
    obtain ⟨S13, hS13, h⟩ := obind h
    refine pE_iv (Bs := [.int x1, .int x2, .int v12]) (st := []) 1 rfl (Or.inl ⟨rfl, rfl⟩) rfl rfl (Nat.le_of_ble_eq_true rfl) (Nat.le_of_ble_eq_true rfl) (g_M_goes hS13) (f_M_goes sp d N S x0 x1 x2 v12 _ hS13) ?_
    refine pE_jump 1 (pc' := 63) (ls' := [some (.ref x0), some (.int x1), some (.int x2)]) (st' := [.int 1]) (fun _ => rfl) ?_
    cases h
    exact pE_ret rfl rfl rfl
def B_M_goesHome_2 (N : Nat)  (rec2 : Int32 → pm_S → Option (Int32 × pm_S)) (x0 : Nat) (x1 : Int32) (x2 : Int32) (S : pm_S) : Option (Int32 × pm_S) :=
    if 10 ≤ x2 then
    F_M_goesHome_70 N S
    else
    ((F_M_isAstray N S x0 x1 x2).bind fun (v2, S1) =>
    if v2 = 0 then
    F_M_goesHome_64 N rec2 x0 x1 x2 S1
    else
    ((oR S1 x0 11 53).bind fun oq3 => match oq3 with
    | none => none
    | some q3 =>
    (oI S1 x0 11 29).bind fun v5 =>
    (aI [0, 6] S1 q3 ((10 * v5) + x2)).bind fun v6 =>
    (F_M_isFree N S1 x0 x1 v6).bind fun (v8, S7) =>
    if v8 = 0 then
    F_M_goesHome_64 N rec2 x0 x1 x2 S7
    else
    F_M_goesHome_42 N x0 x1 x2 S7))
def F_M_goesHome_2 (N : Nat)  (x0 : Nat) (x1 : Int32) : Nat → Int32 → pm_S → Option (Int32 × pm_S)
  | 0 => fun _ _ => none
  | n + 1 => fun x2 S => B_M_goesHome_2 N  (F_M_goesHome_2 N  x0 x1 n) x0 x1 x2 S
set_option maxHeartbeats 4000000 in
set_option maxRecDepth 20000 in
theorem f_M_goesHome_2 (sp : pm_I → List Value → pm_S → pm_O → Prop) (d N : Nat)  (x0 : Nat) (x1 : Int32)  : ∀ (n : Nat) (x2 : Int32) (S : pm_S) (r : (Int32 × pm_S)), F_M_goesHome_2 N  x0 x1 n x2 S = some r → pmE pG (pm_rel pG sp (d + 2)) mi_M_goesHome 2 [some (.ref x0), some (.int x1), some (.int x2)] [] S (some (.int r.1), r.2) := by
  intro n
  induction n with
  | zero =>
    intro x2 S r h
    cases h
  | succ n ih =>
    intro x2 S r h
    replace h : B_M_goesHome_2 N  (F_M_goesHome_2 N  x0 x1 n) x0 x1 x2 S = some r := h
    have hrec2 := ih
    generalize F_M_goesHome_2 N  x0 x1 n = rec2 at h hrec2
    unfold B_M_goesHome_2 at h
    refine pE_jump 2 (pc' := 5) (ls' := [some (.ref x0), some (.int x1), some (.int x2)]) (st' := [.int 10, .int x2]) (fun _ => rfl) ?_
    refine pE_br (10 ≤ x2) rfl rfl (fun c16 => ?_) (fun c16 => ?_)
    · rw [if_pos c16] at h
      refine pE_weak [none, none, none] trivial ?_
      exact f_M_goesHome_70 sp d N S _ h
    · rw [if_neg c16] at h
      refine pE_jump 3 (pc' := 11) (ls' := [some (.ref x0), some (.int x1), some (.int x2)]) (st' := [.int x2, .int x1, .ref x0]) (fun _ => rfl) ?_
      obtain ⟨⟨v2, S1⟩, hv2, h⟩ := obind h
      try dsimp only at h
      refine pE_iv (Bs := [.int x1, .int x2]) (st := []) 1 rfl (Or.inl ⟨rfl, rfl⟩) rfl rfl (Nat.le_of_ble_eq_true rfl) (Nat.le_of_ble_eq_true rfl) (g_M_isAstray hv2) (f_M_isAstray sp d N S x0 x1 x2 _ hv2) ?_
      refine pE_br (v2 = 0) rfl rfl (fun c15 => ?_) (fun c15 => ?_)
      · rw [if_pos c15] at h
        exact f_M_goesHome_64 sp d N rec2 x0 x1 x2 S1 hrec2 _ h
      · rw [if_neg c15] at h
        refine pE_jump 3 (pc' := 20) (ls' := [some (.ref x0), some (.int x1), some (.int x2)]) (st' := [.ref x0, .int x1, .ref x0]) (fun _ => rfl) ?_
        obtain ⟨oq3, hq3, h⟩ := obind h
        cases oq3 with
        | none => cases h
        | some q3 =>
          try dsimp only at h
          refine pE_gfS rfl rfl hq3 ?_
          refine pE_jump 2 (pc' := 26) (ls' := [some (.ref x0), some (.int x1), some (.int x2)]) (st' := [.ref x0, .int 10, .ref q3, .int x1, .ref x0]) (fun _ => rfl) ?_
          obtain ⟨v5, hv5, h⟩ := obind h
          refine pE_gfI rfl rfl hv5 ?_
          refine pE_jump 3 (pc' := 32) (ls' := [some (.ref x0), some (.int x1), some (.int x2)]) (st' := [.int ((10 * v5) + x2), .ref q3, .int x1, .ref x0]) (fun _ => rfl) ?_
          obtain ⟨v6, hv6, h⟩ := obind h
          refine pE_aI rfl rfl hv6 ?_
          obtain ⟨⟨v8, S7⟩, hv8, h⟩ := obind h
          try dsimp only at h
          refine pE_iv (Bs := [.int x1, .int v6]) (st := []) 1 rfl (Or.inl ⟨rfl, rfl⟩) rfl rfl (Nat.le_of_ble_eq_true rfl) (Nat.le_of_ble_eq_true rfl) (g_M_isFree hv8) (f_M_isFree sp d N S1 x0 x1 v6 _ hv8) ?_
          refine pE_br (¬ v8 = 0) rfl rfl (fun c14 => ?_) (fun c14 => ?_)
          · rw [if_neg c14] at h
            exact f_M_goesHome_42 sp d N x0 x1 x2 S7 _ h
          · have c14 := Decidable.not_not.mp c14
            rw [if_pos c14] at h
            refine pE_jump 1 (pc' := 64) (ls' := [some (.ref x0), some (.int x1), some (.int x2)]) (st' := []) (fun _ => rfl) ?_
            exact f_M_goesHome_64 sp d N rec2 x0 x1 x2 S7 hrec2 _ h
def F_M_goesHome (N : Nat) (S : pm_S) (a : Nat) (p0 : Int32) : Option (Int32 × pm_S) :=
    if rcv S a 11 = true then
    (F_M_goesHome_2 N a p0 N 0 S)
    else none
theorem g_M_goesHome {N : Nat} {S : pm_S} {a : Nat} {p0 : Int32} {r : (Int32 × pm_S)} (h : F_M_goesHome N S a p0 = some r) : rcv S a 11 = true := by
  unfold F_M_goesHome at h
  by_cases c : rcv S a 11 = true
  · exact c
  · rw [if_neg c] at h; cases h
set_option maxHeartbeats 4000000 in
set_option maxRecDepth 20000 in
theorem f_M_goesHome (sp : pm_I → List Value → pm_S → pm_O → Prop) (d N : Nat) (S : pm_S) (a : Nat) (p0 : Int32) (r : (Int32 × pm_S)) (h : F_M_goesHome N S a p0 = some r) : pm_rel pG sp (d + 3) mi_M_goesHome [.ref a, .int p0] S (some (.int r.1), r.2) := by
  have hg := g_M_goesHome h
  unfold F_M_goesHome at h
  rw [if_pos hg] at h
  refine pE_rel (d := d + 2) ?_
  show pmE pG _ mi_M_goesHome 0 [some (.ref a), some (.int p0), none] [] S _
  refine pE_jump 2 (pc' := 2) (ls' := [some (.ref a), some (.int p0), some (.int 0)]) (st' := []) (fun _ => rfl) ?_
  exact f_M_goesHome_2 sp d N a p0 N 0 S _ h
def F_M_givesWay_145 (N : Nat)   (S : pm_S) : Option (Int32 × pm_S) :=
    some (0, S)
set_option maxHeartbeats 4000000 in
set_option maxRecDepth 20000 in
theorem f_M_givesWay_145 (sp : pm_I → List Value → pm_S → pm_O → Prop) (d N : Nat)   (S : pm_S)  (r : (Int32 × pm_S)) (h : F_M_givesWay_145 N   S = some r) : pmE pG (pm_rel pG sp (d + 2)) mi_M_givesWay 145 [none, none, none, none, none, none] [] S (some (.int r.1), r.2) := by
  unfold F_M_givesWay_145 at h
  refine pE_jump 1 (pc' := 146) (ls' := [none, none, none, none, none, none]) (st' := [.int 0]) (fun _ => rfl) ?_
  cases h
  exact pE_ret rfl rfl rfl
def F_M_givesWay_139 (N : Nat) (rec33 : Int32 → pm_S → Option (Int32 × pm_S)) (x0 : Nat) (x1 : Int32) (x2 : Int32) (x3 : Int32) (S : pm_S) : Option (Int32 × pm_S) :=
    rec33 (x3 + 1) S
set_option maxHeartbeats 4000000 in
set_option maxRecDepth 20000 in
theorem f_M_givesWay_139 (sp : pm_I → List Value → pm_S → pm_O → Prop) (d N : Nat) (rec33 : Int32 → pm_S → Option (Int32 × pm_S)) (x0 : Nat) (x1 : Int32) (x2 : Int32) (x3 : Int32) (S : pm_S) (hrec33 : ∀ (y1 : Int32) (U : pm_S) (r : (Int32 × pm_S)), rec33 y1 U = some r → pmE pG (pm_rel pG sp (d + 2)) mi_M_givesWay 33 [some (.ref x0), some (.int x1), some (.int x2), some (.int y1), none, none] [] U (some (.int r.1), r.2)) (r : (Int32 × pm_S)) (h : F_M_givesWay_139 N rec33 x0 x1 x2 x3 S = some r) : pmE pG (pm_rel pG sp (d + 2)) mi_M_givesWay 139 [some (.ref x0), some (.int x1), some (.int x2), some (.int x3), none, none] [] S (some (.int r.1), r.2) := by
  unfold F_M_givesWay_139 at h
  refine pE_jump 2 (pc' := 33) (ls' := [some (.ref x0), some (.int x1), some (.int x2), some (.int (x3 + 1)), none, none]) (st' := []) (fun _ => rfl) ?_
  exact hrec33 (x3 + 1) S _ h
def F_M_givesWay_123 (N : Nat)  (x0 : Nat) (x1 : Int32) (x2 : Int32) (x3 : Int32) (S : pm_S) : Option (Int32 × pm_S) :=
    (oR S x0 11 55).bind fun oq13 => match oq13 with
    | none => none
    | some q13 =>
    (sI [2, 3] S q13 x3 1).bind fun S14 =>
    (F_M_goes N S14 x0 x1 x3 x2).bind fun S15 =>
    some (1, S15)
set_option maxHeartbeats 4000000 in
set_option maxRecDepth 20000 in
theorem f_M_givesWay_123 (sp : pm_I → List Value → pm_S → pm_O → Prop) (d N : Nat)  (x0 : Nat) (x1 : Int32) (x2 : Int32) (x3 : Int32) (S : pm_S)  (r : (Int32 × pm_S)) (h : F_M_givesWay_123 N  x0 x1 x2 x3 S = some r) : pmE pG (pm_rel pG sp (d + 2)) mi_M_givesWay 123 [some (.ref x0), some (.int x1), some (.int x2), some (.int x3), none, none] [] S (some (.int r.1), r.2) := by
  unfold F_M_givesWay_123 at h
  refine pE_jump 1 (pc' := 124) (ls' := [some (.ref x0), some (.int x1), some (.int x2), some (.int x3), none, none]) (st' := [.ref x0]) (fun _ => rfl) ?_
  obtain ⟨oq13, hq13, h⟩ := obind h
  cases oq13 with
  | none => cases h
  | some q13 =>
    try dsimp only at h
    refine pE_gfS rfl rfl hq13 ?_
    refine pE_jump 2 (pc' := 129) (ls' := [some (.ref x0), some (.int x1), some (.int x2), some (.int x3), none, none]) (st' := [.int 1, .int x3, .ref q13]) (fun _ => rfl) ?_
    obtain ⟨S14, hS14, h⟩ := obind h
    refine pE_sI rfl rfl hS14 ?_
    refine pE_jump 4 (pc' := 134) (ls' := [some (.ref x0), some (.int x1), some (.int x2), some (.int x3), none, none]) (st' := [.int x2, .int x3, .int x1, .ref x0]) (fun _ => rfl) ?_
    obtain ⟨S15, hS15, h⟩ := obind h
    refine pE_iv (Bs := [.int x1, .int x3, .int x2]) (st := []) 1 rfl (Or.inl ⟨rfl, rfl⟩) rfl rfl (Nat.le_of_ble_eq_true rfl) (Nat.le_of_ble_eq_true rfl) (g_M_goes hS15) (f_M_goes sp d N S14 x0 x1 x3 x2 _ hS15) ?_
    refine pE_jump 1 (pc' := 138) (ls' := [some (.ref x0), some (.int x1), some (.int x2), some (.int x3), none, none]) (st' := [.int 1]) (fun _ => rfl) ?_
    cases h
    exact pE_ret rfl rfl rfl
def F_M_givesWay_102 (N : Nat) (rec33 : Int32 → pm_S → Option (Int32 × pm_S)) (x0 : Nat) (x1 : Int32) (x2 : Int32) (x3 : Int32) (t0 : Int32) (S : pm_S) : Option (Int32 × pm_S) :=
    if t0 = (-1) then
    F_M_givesWay_139 N rec33 x0 x1 x2 x3 S
    else
    ((F_M_isAstray N S x0 x1 t0).bind fun (v12, S11) =>
    if v12 = 0 then
    F_M_givesWay_139 N rec33 x0 x1 x2 x3 S11
    else
    F_M_givesWay_123 N x0 x1 x2 x3 S11)
set_option maxHeartbeats 4000000 in
set_option maxRecDepth 20000 in
theorem f_M_givesWay_102 (sp : pm_I → List Value → pm_S → pm_O → Prop) (d N : Nat) (rec33 : Int32 → pm_S → Option (Int32 × pm_S)) (x0 : Nat) (x1 : Int32) (x2 : Int32) (x3 : Int32) (t0 : Int32) (S : pm_S) (hrec33 : ∀ (y1 : Int32) (U : pm_S) (r : (Int32 × pm_S)), rec33 y1 U = some r → pmE pG (pm_rel pG sp (d + 2)) mi_M_givesWay 33 [some (.ref x0), some (.int x1), some (.int x2), some (.int y1), none, none] [] U (some (.int r.1), r.2)) (r : (Int32 × pm_S)) (h : F_M_givesWay_102 N rec33 x0 x1 x2 x3 t0 S = some r) : pmE pG (pm_rel pG sp (d + 2)) mi_M_givesWay 102 [some (.ref x0), some (.int x1), some (.int x2), some (.int x3), none, none] [.int t0] S (some (.int r.1), r.2) := by
  unfold F_M_givesWay_102 at h
  refine pE_jump 3 (pc' := 107) (ls' := [some (.ref x0), some (.int x1), some (.int x2), some (.int x3), none, some (.int t0)]) (st' := [.int (-1), .int t0]) (fun _ => rfl) ?_
  refine pE_br (t0 = (-1)) rfl rfl (fun c17 => ?_) (fun c17 => ?_)
  · rw [if_pos c17] at h
    refine pE_weak [some (.ref x0), some (.int x1), some (.int x2), some (.int x3), none, none] ⟨rfl, ⟨rfl, ⟨rfl, ⟨rfl, trivial⟩⟩⟩⟩ ?_
    exact f_M_givesWay_139 sp d N rec33 x0 x1 x2 x3 S hrec33 _ h
  · rw [if_neg c17] at h
    refine pE_jump 3 (pc' := 114) (ls' := [some (.ref x0), some (.int x1), some (.int x2), some (.int x3), none, some (.int t0)]) (st' := [.int t0, .int x1, .ref x0]) (fun _ => rfl) ?_
    obtain ⟨⟨v12, S11⟩, hv12, h⟩ := obind h
    try dsimp only at h
    refine pE_iv (Bs := [.int x1, .int t0]) (st := []) 1 rfl (Or.inl ⟨rfl, rfl⟩) rfl rfl (Nat.le_of_ble_eq_true rfl) (Nat.le_of_ble_eq_true rfl) (g_M_isAstray hv12) (f_M_isAstray sp d N S x0 x1 t0 _ hv12) ?_
    refine pE_br (¬ v12 = 0) rfl rfl (fun c16 => ?_) (fun c16 => ?_)
    · rw [if_neg c16] at h
      refine pE_weak [some (.ref x0), some (.int x1), some (.int x2), some (.int x3), none, none] ⟨rfl, ⟨rfl, ⟨rfl, ⟨rfl, trivial⟩⟩⟩⟩ ?_
      exact f_M_givesWay_123 sp d N x0 x1 x2 x3 S11 _ h
    · have c16 := Decidable.not_not.mp c16
      rw [if_pos c16] at h
      refine pE_jump 1 (pc' := 139) (ls' := [some (.ref x0), some (.int x1), some (.int x2), some (.int x3), none, some (.int t0)]) (st' := []) (fun _ => rfl) ?_
      refine pE_weak [some (.ref x0), some (.int x1), some (.int x2), some (.int x3), none, none] ⟨rfl, ⟨rfl, ⟨rfl, ⟨rfl, trivial⟩⟩⟩⟩ ?_
      exact f_M_givesWay_139 sp d N rec33 x0 x1 x2 x3 S11 hrec33 _ h
def B_M_givesWay_33 (N : Nat)  (rec33 : Int32 → pm_S → Option (Int32 × pm_S)) (x0 : Nat) (x1 : Int32) (x2 : Int32) (x3 : Int32) (S : pm_S) : Option (Int32 × pm_S) :=
    if 10 ≤ x3 then
    F_M_givesWay_145 N S
    else
    ((F_M_isAstray N S x0 x1 x3).bind fun (v2, S1) =>
    if v2 = 0 then
    F_M_givesWay_139 N rec33 x0 x1 x2 x3 S1
    else
    ((oR S1 x0 11 55).bind fun oq3 => match oq3 with
    | none => none
    | some q3 =>
    (aI [2, 3] S1 q3 x3).bind fun v4 =>
    if v4 = 0 then
    ((oR S1 x0 11 53).bind fun oq5 => match oq5 with
    | none => none
    | some q5 =>
    (oI S1 x0 11 29).bind fun v7 =>
    (aI [0, 6] S1 q5 ((10 * v7) + x3)).bind fun v8 =>
    (F_M_isIn N S1 v8 0 5).bind fun (v10, S9) =>
    if v10 = 0 then
    F_M_givesWay_102 N rec33 x0 x1 x2 x3 (-1) S9
    else
    ((oR S9 x0 11 27).bind fun oq18 => match oq18 with
    | none => none
    | some q18 =>
    (aI [0, 6] S9 q18 ((6 * x1) + v8)).bind fun v19 =>
    F_M_givesWay_102 N rec33 x0 x1 x2 x3 v19 S9))
    else
    F_M_givesWay_139 N rec33 x0 x1 x2 x3 S1))
def F_M_givesWay_33 (N : Nat)  (x0 : Nat) (x1 : Int32) (x2 : Int32) : Nat → Int32 → pm_S → Option (Int32 × pm_S)
  | 0 => fun _ _ => none
  | n + 1 => fun x3 S => B_M_givesWay_33 N  (F_M_givesWay_33 N  x0 x1 x2 n) x0 x1 x2 x3 S
set_option maxHeartbeats 4000000 in
set_option maxRecDepth 20000 in
theorem f_M_givesWay_33 (sp : pm_I → List Value → pm_S → pm_O → Prop) (d N : Nat)  (x0 : Nat) (x1 : Int32) (x2 : Int32)  : ∀ (n : Nat) (x3 : Int32) (S : pm_S) (r : (Int32 × pm_S)), F_M_givesWay_33 N  x0 x1 x2 n x3 S = some r → pmE pG (pm_rel pG sp (d + 2)) mi_M_givesWay 33 [some (.ref x0), some (.int x1), some (.int x2), some (.int x3), none, none] [] S (some (.int r.1), r.2) := by
  intro n
  induction n with
  | zero =>
    intro x3 S r h
    cases h
  | succ n ih =>
    intro x3 S r h
    replace h : B_M_givesWay_33 N  (F_M_givesWay_33 N  x0 x1 x2 n) x0 x1 x2 x3 S = some r := h
    have hrec33 := ih
    generalize F_M_givesWay_33 N  x0 x1 x2 n = rec33 at h hrec33
    unfold B_M_givesWay_33 at h
    refine pE_jump 2 (pc' := 36) (ls' := [some (.ref x0), some (.int x1), some (.int x2), some (.int x3), none, none]) (st' := [.int 10, .int x3]) (fun _ => rfl) ?_
    refine pE_br (10 ≤ x3) rfl rfl (fun c23 => ?_) (fun c23 => ?_)
    · rw [if_pos c23] at h
      refine pE_weak [none, none, none, none, none, none] trivial ?_
      exact f_M_givesWay_145 sp d N S _ h
    · rw [if_neg c23] at h
      refine pE_jump 3 (pc' := 42) (ls' := [some (.ref x0), some (.int x1), some (.int x2), some (.int x3), none, none]) (st' := [.int x3, .int x1, .ref x0]) (fun _ => rfl) ?_
      obtain ⟨⟨v2, S1⟩, hv2, h⟩ := obind h
      try dsimp only at h
      refine pE_iv (Bs := [.int x1, .int x3]) (st := []) 1 rfl (Or.inl ⟨rfl, rfl⟩) rfl rfl (Nat.le_of_ble_eq_true rfl) (Nat.le_of_ble_eq_true rfl) (g_M_isAstray hv2) (f_M_isAstray sp d N S x0 x1 x3 _ hv2) ?_
      refine pE_br (v2 = 0) rfl rfl (fun c22 => ?_) (fun c22 => ?_)
      · rw [if_pos c22] at h
        exact f_M_givesWay_139 sp d N rec33 x0 x1 x2 x3 S1 hrec33 _ h
      · rw [if_neg c22] at h
        refine pE_jump 1 (pc' := 49) (ls' := [some (.ref x0), some (.int x1), some (.int x2), some (.int x3), none, none]) (st' := [.ref x0]) (fun _ => rfl) ?_
        obtain ⟨oq3, hq3, h⟩ := obind h
        cases oq3 with
        | none => cases h
        | some q3 =>
          try dsimp only at h
          refine pE_gfS rfl rfl hq3 ?_
          refine pE_jump 1 (pc' := 53) (ls' := [some (.ref x0), some (.int x1), some (.int x2), some (.int x3), none, none]) (st' := [.int x3, .ref q3]) (fun _ => rfl) ?_
          obtain ⟨v4, hv4, h⟩ := obind h
          refine pE_aI rfl rfl hv4 ?_
          refine pE_br (v4 = 0) rfl rfl (fun c21 => ?_) (fun c21 => ?_)
          · rw [if_pos c21] at h
            refine pE_jump 1 (pc' := 61) (ls' := [some (.ref x0), some (.int x1), some (.int x2), some (.int x3), none, none]) (st' := [.ref x0]) (fun _ => rfl) ?_
            obtain ⟨oq5, hq5, h⟩ := obind h
            cases oq5 with
            | none => cases h
            | some q5 =>
              try dsimp only at h
              refine pE_gfS rfl rfl hq5 ?_
              refine pE_jump 2 (pc' := 67) (ls' := [some (.ref x0), some (.int x1), some (.int x2), some (.int x3), none, none]) (st' := [.ref x0, .int 10, .ref q5]) (fun _ => rfl) ?_
              obtain ⟨v7, hv7, h⟩ := obind h
              refine pE_gfI rfl rfl hv7 ?_
              refine pE_jump 3 (pc' := 73) (ls' := [some (.ref x0), some (.int x1), some (.int x2), some (.int x3), none, none]) (st' := [.int ((10 * v7) + x3), .ref q5]) (fun _ => rfl) ?_
              obtain ⟨v8, hv8, h⟩ := obind h
              refine pE_aI rfl rfl hv8 ?_
              refine pE_jump 4 (pc' := 80) (ls' := [some (.ref x0), some (.int x1), some (.int x2), some (.int x3), some (.int v8), none]) (st' := [.int 5, .int 0, .int v8]) (fun _ => rfl) ?_
              obtain ⟨⟨v10, S9⟩, hv10, h⟩ := obind h
              try dsimp only at h
              refine pE_is (Bs := [.int v8, .int 0, .int 5]) (st := []) rfl rfl rfl (Nat.le_of_ble_eq_true rfl) (Nat.le_of_ble_eq_true rfl) (f_M_isIn sp (d + 1) N S1 v8 0 5 _ hv10) ?_
              refine pE_br (v10 = 0) rfl rfl (fun c20 => ?_) (fun c20 => ?_)
              · rw [if_pos c20] at h
                refine pE_jump 1 (pc' := 102) (ls' := [some (.ref x0), some (.int x1), some (.int x2), some (.int x3), some (.int v8), none]) (st' := [.int (-1)]) (fun _ => rfl) ?_
                refine pE_weak [some (.ref x0), some (.int x1), some (.int x2), some (.int x3), none, none] ⟨rfl, ⟨rfl, ⟨rfl, ⟨rfl, trivial⟩⟩⟩⟩ ?_
                exact f_M_givesWay_102 sp d N rec33 x0 x1 x2 x3 (-1) S9 hrec33 _ h
              · rw [if_neg c20] at h
                refine pE_jump 1 (pc' := 87) (ls' := [some (.ref x0), some (.int x1), some (.int x2), some (.int x3), some (.int v8), none]) (st' := [.ref x0]) (fun _ => rfl) ?_
                obtain ⟨oq18, hq18, h⟩ := obind h
                cases oq18 with
                | none => cases h
                | some q18 =>
                  try dsimp only at h
                  refine pE_gfS rfl rfl hq18 ?_
                  refine pE_jump 5 (pc' := 97) (ls' := [some (.ref x0), some (.int x1), some (.int x2), some (.int x3), some (.int v8), none]) (st' := [.int ((6 * x1) + v8), .ref q18]) (fun _ => rfl) ?_
                  obtain ⟨v19, hv19, h⟩ := obind h
                  refine pE_aI rfl rfl hv19 ?_
                  refine pE_jump 1 (pc' := 102) (ls' := [some (.ref x0), some (.int x1), some (.int x2), some (.int x3), some (.int v8), none]) (st' := [.int v19]) (fun _ => rfl) ?_
                  refine pE_weak [some (.ref x0), some (.int x1), some (.int x2), some (.int x3), none, none] ⟨rfl, ⟨rfl, ⟨rfl, ⟨rfl, trivial⟩⟩⟩⟩ ?_
                  exact f_M_givesWay_102 sp d N rec33 x0 x1 x2 x3 v19 S9 hrec33 _ h
          · rw [if_neg c21] at h
            refine pE_jump 1 (pc' := 139) (ls' := [some (.ref x0), some (.int x1), some (.int x2), some (.int x3), none, none]) (st' := []) (fun _ => rfl) ?_
            exact f_M_givesWay_139 sp d N rec33 x0 x1 x2 x3 S1 hrec33 _ h
def F_M_givesWay_23 (N : Nat)  (x0 : Nat) (x1 : Int32) (x2 : Int32) (S : pm_S) : Option (Int32 × pm_S) :=
    if x2 = 6 then
    some (0, S)
    else
    F_M_givesWay_33 N x0 x1 x2 N 0 S
set_option maxHeartbeats 4000000 in
set_option maxRecDepth 20000 in
theorem f_M_givesWay_23 (sp : pm_I → List Value → pm_S → pm_O → Prop) (d N : Nat)  (x0 : Nat) (x1 : Int32) (x2 : Int32) (S : pm_S)  (r : (Int32 × pm_S)) (h : F_M_givesWay_23 N  x0 x1 x2 S = some r) : pmE pG (pm_rel pG sp (d + 2)) mi_M_givesWay 23 [some (.ref x0), some (.int x1), some (.int x2), none, none, none] [] S (some (.int r.1), r.2) := by
  unfold F_M_givesWay_23 at h
  refine pE_jump 2 (pc' := 26) (ls' := [some (.ref x0), some (.int x1), some (.int x2), none, none, none]) (st' := [.int 6, .int x2]) (fun _ => rfl) ?_
  refine pE_br (¬ x2 = 6) rfl rfl (fun c24 => ?_) (fun c24 => ?_)
  · rw [if_neg c24] at h
    refine pE_jump 2 (pc' := 33) (ls' := [some (.ref x0), some (.int x1), some (.int x2), some (.int 0), none, none]) (st' := []) (fun _ => rfl) ?_
    exact f_M_givesWay_33 sp d N x0 x1 x2 N 0 S _ h
  · have c24 := Decidable.not_not.mp c24
    rw [if_pos c24] at h
    refine pE_jump 1 (pc' := 30) (ls' := [some (.ref x0), some (.int x1), some (.int x2), none, none, none]) (st' := [.int 0]) (fun _ => rfl) ?_
    cases h
    exact pE_ret rfl rfl rfl
def B_M_givesWay_2 (N : Nat)  (rec2 : Int32 → pm_S → Option (Int32 × pm_S)) (x0 : Nat) (x1 : Int32) (x2 : Int32) (S : pm_S) : Option (Int32 × pm_S) :=
    if 6 ≤ x2 then
    F_M_givesWay_23 N x0 x1 x2 S
    else
    ((F_M_isFree N S x0 x1 x2).bind fun (v26, S25) =>
    if v26 = 0 then
    rec2 (x2 + 1) S25
    else
    F_M_givesWay_23 N x0 x1 x2 S25)
def F_M_givesWay_2 (N : Nat)  (x0 : Nat) (x1 : Int32) : Nat → Int32 → pm_S → Option (Int32 × pm_S)
  | 0 => fun _ _ => none
  | n + 1 => fun x2 S => B_M_givesWay_2 N  (F_M_givesWay_2 N  x0 x1 n) x0 x1 x2 S
set_option maxHeartbeats 4000000 in
set_option maxRecDepth 20000 in
theorem f_M_givesWay_2 (sp : pm_I → List Value → pm_S → pm_O → Prop) (d N : Nat)  (x0 : Nat) (x1 : Int32)  : ∀ (n : Nat) (x2 : Int32) (S : pm_S) (r : (Int32 × pm_S)), F_M_givesWay_2 N  x0 x1 n x2 S = some r → pmE pG (pm_rel pG sp (d + 2)) mi_M_givesWay 2 [some (.ref x0), some (.int x1), some (.int x2), none, none, none] [] S (some (.int r.1), r.2) := by
  intro n
  induction n with
  | zero =>
    intro x2 S r h
    cases h
  | succ n ih =>
    intro x2 S r h
    replace h : B_M_givesWay_2 N  (F_M_givesWay_2 N  x0 x1 n) x0 x1 x2 S = some r := h
    have hrec2 := ih
    generalize F_M_givesWay_2 N  x0 x1 n = rec2 at h hrec2
    unfold B_M_givesWay_2 at h
    refine pE_jump 2 (pc' := 5) (ls' := [some (.ref x0), some (.int x1), some (.int x2), none, none, none]) (st' := [.int 6, .int x2]) (fun _ => rfl) ?_
    refine pE_br (6 ≤ x2) rfl rfl (fun c28 => ?_) (fun c28 => ?_)
    · rw [if_pos c28] at h
      exact f_M_givesWay_23 sp d N x0 x1 x2 S _ h
    · rw [if_neg c28] at h
      refine pE_jump 3 (pc' := 11) (ls' := [some (.ref x0), some (.int x1), some (.int x2), none, none, none]) (st' := [.int x2, .int x1, .ref x0]) (fun _ => rfl) ?_
      obtain ⟨⟨v26, S25⟩, hv26, h⟩ := obind h
      try dsimp only at h
      refine pE_iv (Bs := [.int x1, .int x2]) (st := []) 1 rfl (Or.inl ⟨rfl, rfl⟩) rfl rfl (Nat.le_of_ble_eq_true rfl) (Nat.le_of_ble_eq_true rfl) (g_M_isFree hv26) (f_M_isFree sp d N S x0 x1 x2 _ hv26) ?_
      refine pE_br (¬ v26 = 0) rfl rfl (fun c27 => ?_) (fun c27 => ?_)
      · rw [if_neg c27] at h
        exact f_M_givesWay_23 sp d N x0 x1 x2 S25 _ h
      · have c27 := Decidable.not_not.mp c27
        rw [if_pos c27] at h
        refine pE_jump 2 (pc' := 2) (ls' := [some (.ref x0), some (.int x1), some (.int (x2 + 1)), none, none, none]) (st' := []) (fun _ => rfl) ?_
        exact hrec2 (x2 + 1) S25 _ h
def F_M_givesWay (N : Nat) (S : pm_S) (a : Nat) (p0 : Int32) : Option (Int32 × pm_S) :=
    if rcv S a 11 = true then
    (F_M_givesWay_2 N a p0 N 0 S)
    else none
theorem g_M_givesWay {N : Nat} {S : pm_S} {a : Nat} {p0 : Int32} {r : (Int32 × pm_S)} (h : F_M_givesWay N S a p0 = some r) : rcv S a 11 = true := by
  unfold F_M_givesWay at h
  by_cases c : rcv S a 11 = true
  · exact c
  · rw [if_neg c] at h; cases h
set_option maxHeartbeats 4000000 in
set_option maxRecDepth 20000 in
theorem f_M_givesWay (sp : pm_I → List Value → pm_S → pm_O → Prop) (d N : Nat) (S : pm_S) (a : Nat) (p0 : Int32) (r : (Int32 × pm_S)) (h : F_M_givesWay N S a p0 = some r) : pm_rel pG sp (d + 3) mi_M_givesWay [.ref a, .int p0] S (some (.int r.1), r.2) := by
  have hg := g_M_givesWay h
  unfold F_M_givesWay at h
  rw [if_pos hg] at h
  refine pE_rel (d := d + 2) ?_
  show pmE pG _ mi_M_givesWay 0 [some (.ref a), some (.int p0), none, none, none, none] [] S _
  refine pE_jump 2 (pc' := 2) (ls' := [some (.ref a), some (.int p0), some (.int 0), none, none, none]) (st' := []) (fun _ => rfl) ?_
  exact f_M_givesWay_2 sp d N a p0 N 0 S _ h
def F_M_moves_40 (N : Nat)   (S : pm_S) : Option (Int32 × pm_S) :=
    some ((-1), S)
set_option maxHeartbeats 4000000 in
set_option maxRecDepth 20000 in
theorem f_M_moves_40 (sp : pm_I → List Value → pm_S → pm_O → Prop) (d N : Nat)   (S : pm_S)  (r : (Int32 × pm_S)) (h : F_M_moves_40 N   S = some r) : pmE pG (pm_rel pG sp (d + 5)) mi_M_moves 40 [none, none, none, none, none, none, none] [] S (some (.int r.1), r.2) := by
  unfold F_M_moves_40 at h
  refine pE_jump 1 (pc' := 41) (ls' := [none, none, none, none, none, none, none]) (st' := [.int (-1)]) (fun _ => rfl) ?_
  cases h
  exact pE_ret rfl rfl rfl
def F_M_moves_236 (N : Nat)  (t0 : Int32) (S : pm_S) : Option (Int32 × pm_S) :=
    some (t0, S)
set_option maxHeartbeats 4000000 in
set_option maxRecDepth 20000 in
theorem f_M_moves_236 (sp : pm_I → List Value → pm_S → pm_O → Prop) (d N : Nat)  (t0 : Int32) (S : pm_S)  (r : (Int32 × pm_S)) (h : F_M_moves_236 N  t0 S = some r) : pmE pG (pm_rel pG sp (d + 5)) mi_M_moves 236 [none, none, none, none, none, none, none] [.int t0] S (some (.int r.1), r.2) := by
  unfold F_M_moves_236 at h
  cases h
  exact pE_ret rfl rfl rfl
def F_M_moves_197 (N : Nat)  (x0 : Nat) (x4 : Int32) (S : pm_S) : Option (Int32 × pm_S) :=
    if x4 = (-1) then
    ((oI S x0 11 57).bind fun v14 =>
    F_M_moves_236 N v14 S)
    else
    ((oI S x0 11 57).bind fun v15 =>
    (F_M_isIn N S x4 0 (v15 - 1)).bind fun (v17, S16) =>
    if v17 = 0 then
    F_M_moves_236 N (-1) S16
    else
    ((oR S16 x0 11 56).bind fun oq18 => match oq18 with
    | none => none
    | some q18 =>
    (aI [0, 6] S16 q18 x4).bind fun v19 =>
    F_M_moves_236 N v19 S16))
set_option maxHeartbeats 4000000 in
set_option maxRecDepth 20000 in
theorem f_M_moves_197 (sp : pm_I → List Value → pm_S → pm_O → Prop) (d N : Nat)  (x0 : Nat) (x4 : Int32) (S : pm_S)  (r : (Int32 × pm_S)) (h : F_M_moves_197 N  x0 x4 S = some r) : pmE pG (pm_rel pG sp (d + 5)) mi_M_moves 197 [some (.ref x0), none, none, none, some (.int x4), none, none] [] S (some (.int r.1), r.2) := by
  unfold F_M_moves_197 at h
  refine pE_jump 2 (pc' := 200) (ls' := [some (.ref x0), none, none, none, some (.int x4), none, none]) (st' := [.int (-1), .int x4]) (fun _ => rfl) ?_
  refine pE_br (¬ x4 = (-1)) rfl rfl (fun c21 => ?_) (fun c21 => ?_)
  · rw [if_neg c21] at h
    refine pE_jump 3 (pc' := 214) (ls' := [some (.ref x0), none, none, none, some (.int x4), none, none]) (st' := [.ref x0, .int 0, .int x4]) (fun _ => rfl) ?_
    obtain ⟨v15, hv15, h⟩ := obind h
    refine pE_gfI rfl rfl hv15 ?_
    refine pE_jump 2 (pc' := 219) (ls' := [some (.ref x0), none, none, none, some (.int x4), none, none]) (st' := [.int (v15 - 1), .int 0, .int x4]) (fun _ => rfl) ?_
    obtain ⟨⟨v17, S16⟩, hv17, h⟩ := obind h
    try dsimp only at h
    refine pE_is (Bs := [.int x4, .int 0, .int (v15 - 1)]) (st := []) rfl rfl rfl (Nat.le_of_ble_eq_true rfl) (Nat.le_of_ble_eq_true rfl) (f_M_isIn sp (d + 4) N S x4 0 (v15 - 1) _ hv17) ?_
    refine pE_br (v17 = 0) rfl rfl (fun c20 => ?_) (fun c20 => ?_)
    · rw [if_pos c20] at h
      refine pE_jump 1 (pc' := 236) (ls' := [some (.ref x0), none, none, none, some (.int x4), none, none]) (st' := [.int (-1)]) (fun _ => rfl) ?_
      refine pE_weak [none, none, none, none, none, none, none] trivial ?_
      exact f_M_moves_236 sp d N (-1) S16 _ h
    · rw [if_neg c20] at h
      refine pE_jump 1 (pc' := 226) (ls' := [some (.ref x0), none, none, none, some (.int x4), none, none]) (st' := [.ref x0]) (fun _ => rfl) ?_
      obtain ⟨oq18, hq18, h⟩ := obind h
      cases oq18 with
      | none => cases h
      | some q18 =>
        try dsimp only at h
        refine pE_gfS rfl rfl hq18 ?_
        refine pE_jump 1 (pc' := 231) (ls' := [some (.ref x0), none, none, none, some (.int x4), none, none]) (st' := [.int x4, .ref q18]) (fun _ => rfl) ?_
        obtain ⟨v19, hv19, h⟩ := obind h
        refine pE_aI rfl rfl hv19 ?_
        refine pE_jump 1 (pc' := 236) (ls' := [some (.ref x0), none, none, none, some (.int x4), none, none]) (st' := [.int v19]) (fun _ => rfl) ?_
        refine pE_weak [none, none, none, none, none, none, none] trivial ?_
        exact f_M_moves_236 sp d N v19 S16 _ h
  · have c21 := Decidable.not_not.mp c21
    rw [if_pos c21] at h
    refine pE_jump 1 (pc' := 204) (ls' := [some (.ref x0), none, none, none, some (.int x4), none, none]) (st' := [.ref x0]) (fun _ => rfl) ?_
    obtain ⟨v14, hv14, h⟩ := obind h
    refine pE_gfI rfl rfl hv14 ?_
    refine pE_jump 1 (pc' := 236) (ls' := [some (.ref x0), none, none, none, some (.int x4), none, none]) (st' := [.int v14]) (fun _ => rfl) ?_
    refine pE_weak [none, none, none, none, none, none, none] trivial ?_
    exact f_M_moves_236 sp d N v14 S _ h
def F_M_moves_192 (N : Nat) (rec164 : Int32 → pm_S → Option (Int32 × pm_S)) (x0 : Nat) (x4 : Int32) (x5 : Int32) (t0 : Int32) (S : pm_S) : Option (Int32 × pm_S) :=
    rec164 t0 S
set_option maxHeartbeats 4000000 in
set_option maxRecDepth 20000 in
theorem f_M_moves_192 (sp : pm_I → List Value → pm_S → pm_O → Prop) (d N : Nat) (rec164 : Int32 → pm_S → Option (Int32 × pm_S)) (x0 : Nat) (x4 : Int32) (x5 : Int32) (t0 : Int32) (S : pm_S) (hrec164 : ∀ (y1 : Int32) (U : pm_S) (r : (Int32 × pm_S)), rec164 y1 U = some r → pmE pG (pm_rel pG sp (d + 5)) mi_M_moves 164 [some (.ref x0), none, none, none, some (.int x4), some (.int x5), some (.int y1)] [] U (some (.int r.1), r.2)) (r : (Int32 × pm_S)) (h : F_M_moves_192 N rec164 x0 x4 x5 t0 S = some r) : pmE pG (pm_rel pG sp (d + 5)) mi_M_moves 192 [some (.ref x0), none, none, none, some (.int x4), some (.int x5), none] [.int t0] S (some (.int r.1), r.2) := by
  unfold F_M_moves_192 at h
  refine pE_jump 2 (pc' := 164) (ls' := [some (.ref x0), none, none, none, some (.int x4), some (.int x5), some (.int t0)]) (st' := []) (fun _ => rfl) ?_
  exact hrec164 t0 S _ h
def F_M_moves_187 (N : Nat) (rec164 : Int32 → pm_S → Option (Int32 × pm_S)) (x0 : Nat) (x4 : Int32) (x5 : Int32) (S : pm_S) : Option (Int32 × pm_S) :=
    F_M_moves_192 N rec164 x0 x4 x5 1 S
set_option maxHeartbeats 4000000 in
set_option maxRecDepth 20000 in
theorem f_M_moves_187 (sp : pm_I → List Value → pm_S → pm_O → Prop) (d N : Nat) (rec164 : Int32 → pm_S → Option (Int32 × pm_S)) (x0 : Nat) (x4 : Int32) (x5 : Int32) (S : pm_S) (hrec164 : ∀ (y1 : Int32) (U : pm_S) (r : (Int32 × pm_S)), rec164 y1 U = some r → pmE pG (pm_rel pG sp (d + 5)) mi_M_moves 164 [some (.ref x0), none, none, none, some (.int x4), some (.int x5), some (.int y1)] [] U (some (.int r.1), r.2)) (r : (Int32 × pm_S)) (h : F_M_moves_187 N rec164 x0 x4 x5 S = some r) : pmE pG (pm_rel pG sp (d + 5)) mi_M_moves 187 [some (.ref x0), none, none, none, some (.int x4), some (.int x5), none] [] S (some (.int r.1), r.2) := by
  unfold F_M_moves_187 at h
  refine pE_jump 2 (pc' := 192) (ls' := [some (.ref x0), none, none, none, some (.int x4), some (.int x5), none]) (st' := [.int 1]) (fun _ => rfl) ?_
  exact f_M_moves_192 sp d N rec164 x0 x4 x5 1 S hrec164 _ h
def B_M_moves_164 (N : Nat)  (rec164 : Int32 → pm_S → Option (Int32 × pm_S)) (x0 : Nat) (x4 : Int32) (x5 : Int32) (x6 : Int32) (S : pm_S) : Option (Int32 × pm_S) :=
    if x6 = 0 then
    F_M_moves_197 N x0 x4 S
    else
    ((F_M_goesHome N S x0 x5).bind fun (v23, S22) =>
    if v23 = 0 then
    ((F_M_givesWay N S22 x0 x5).bind fun (v25, S24) =>
    if v25 = 0 then
    F_M_moves_192 N rec164 x0 x4 x5 0 S24
    else
    F_M_moves_187 N rec164 x0 x4 x5 S24)
    else
    F_M_moves_187 N rec164 x0 x4 x5 S22)
def F_M_moves_164 (N : Nat)  (x0 : Nat) (x4 : Int32) (x5 : Int32) : Nat → Int32 → pm_S → Option (Int32 × pm_S)
  | 0 => fun _ _ => none
  | n + 1 => fun x6 S => B_M_moves_164 N  (F_M_moves_164 N  x0 x4 x5 n) x0 x4 x5 x6 S
set_option maxHeartbeats 4000000 in
set_option maxRecDepth 20000 in
theorem f_M_moves_164 (sp : pm_I → List Value → pm_S → pm_O → Prop) (d N : Nat)  (x0 : Nat) (x4 : Int32) (x5 : Int32)  : ∀ (n : Nat) (x6 : Int32) (S : pm_S) (r : (Int32 × pm_S)), F_M_moves_164 N  x0 x4 x5 n x6 S = some r → pmE pG (pm_rel pG sp (d + 5)) mi_M_moves 164 [some (.ref x0), none, none, none, some (.int x4), some (.int x5), some (.int x6)] [] S (some (.int r.1), r.2) := by
  intro n
  induction n with
  | zero =>
    intro x6 S r h
    cases h
  | succ n ih =>
    intro x6 S r h
    replace h : B_M_moves_164 N  (F_M_moves_164 N  x0 x4 x5 n) x0 x4 x5 x6 S = some r := h
    have hrec164 := ih
    generalize F_M_moves_164 N  x0 x4 x5 n = rec164 at h hrec164
    unfold B_M_moves_164 at h
    refine pE_jump 1 (pc' := 166) (ls' := [some (.ref x0), none, none, none, some (.int x4), some (.int x5), some (.int x6)]) (st' := [.int x6]) (fun _ => rfl) ?_
    refine pE_br (x6 = 0) rfl rfl (fun c28 => ?_) (fun c28 => ?_)
    · rw [if_pos c28] at h
      refine pE_weak [some (.ref x0), none, none, none, some (.int x4), none, none] ⟨rfl, ⟨rfl, trivial⟩⟩ ?_
      exact f_M_moves_197 sp d N x0 x4 S _ h
    · rw [if_neg c28] at h
      refine pE_jump 2 (pc' := 172) (ls' := [some (.ref x0), none, none, none, some (.int x4), some (.int x5), some (.int x6)]) (st' := [.int x5, .ref x0]) (fun _ => rfl) ?_
      obtain ⟨⟨v23, S22⟩, hv23, h⟩ := obind h
      try dsimp only at h
      refine pE_iv (Bs := [.int x5]) (st := []) 1 rfl (Or.inl ⟨rfl, rfl⟩) rfl rfl (Nat.le_of_ble_eq_true rfl) (Nat.le_of_ble_eq_true rfl) (g_M_goesHome hv23) (f_M_goesHome sp (d + 2) N S x0 x5 _ hv23) ?_
      refine pE_br (¬ v23 = 0) rfl rfl (fun c27 => ?_) (fun c27 => ?_)
      · rw [if_neg c27] at h
        refine pE_weak [some (.ref x0), none, none, none, some (.int x4), some (.int x5), none] ⟨rfl, ⟨rfl, ⟨rfl, trivial⟩⟩⟩ ?_
        exact f_M_moves_187 sp d N rec164 x0 x4 x5 S22 hrec164 _ h
      · have c27 := Decidable.not_not.mp c27
        rw [if_pos c27] at h
        refine pE_jump 2 (pc' := 181) (ls' := [some (.ref x0), none, none, none, some (.int x4), some (.int x5), some (.int x6)]) (st' := [.int x5, .ref x0]) (fun _ => rfl) ?_
        obtain ⟨⟨v25, S24⟩, hv25, h⟩ := obind h
        try dsimp only at h
        refine pE_iv (Bs := [.int x5]) (st := []) 1 rfl (Or.inl ⟨rfl, rfl⟩) rfl rfl (Nat.le_of_ble_eq_true rfl) (Nat.le_of_ble_eq_true rfl) (g_M_givesWay hv25) (f_M_givesWay sp (d + 2) N S22 x0 x5 _ hv25) ?_
        refine pE_br (v25 = 0) rfl rfl (fun c26 => ?_) (fun c26 => ?_)
        · rw [if_pos c26] at h
          refine pE_jump 1 (pc' := 192) (ls' := [some (.ref x0), none, none, none, some (.int x4), some (.int x5), some (.int x6)]) (st' := [.int 0]) (fun _ => rfl) ?_
          refine pE_weak [some (.ref x0), none, none, none, some (.int x4), some (.int x5), none] ⟨rfl, ⟨rfl, ⟨rfl, trivial⟩⟩⟩ ?_
          exact f_M_moves_192 sp d N rec164 x0 x4 x5 0 S24 hrec164 _ h
        · rw [if_neg c26] at h
          refine pE_weak [some (.ref x0), none, none, none, some (.int x4), some (.int x5), none] ⟨rfl, ⟨rfl, ⟨rfl, trivial⟩⟩⟩ ?_
          exact f_M_moves_187 sp d N rec164 x0 x4 x5 S24 hrec164 _ h
def F_M_moves_156 (N : Nat)  (x0 : Nat) (x4 : Int32) (x5 : Int32) (S : pm_S) : Option (Int32 × pm_S) :=
    (wF S x0 11 57 .int (.int 0)).bind fun S13 =>
    F_M_moves_164 N x0 x4 x5 N 1 S13
set_option maxHeartbeats 4000000 in
set_option maxRecDepth 20000 in
theorem f_M_moves_156 (sp : pm_I → List Value → pm_S → pm_O → Prop) (d N : Nat)  (x0 : Nat) (x4 : Int32) (x5 : Int32) (S : pm_S)  (r : (Int32 × pm_S)) (h : F_M_moves_156 N  x0 x4 x5 S = some r) : pmE pG (pm_rel pG sp (d + 5)) mi_M_moves 156 [some (.ref x0), none, none, none, some (.int x4), some (.int x5), none] [] S (some (.int r.1), r.2) := by
  unfold F_M_moves_156 at h
  refine pE_jump 2 (pc' := 158) (ls' := [some (.ref x0), none, none, none, some (.int x4), some (.int x5), none]) (st' := [.int 0, .ref x0]) (fun _ => rfl) ?_
  obtain ⟨S13, hS13, h⟩ := obind h
  refine pE_pf rfl rfl rfl hS13 ?_
  refine pE_jump 2 (pc' := 164) (ls' := [some (.ref x0), none, none, none, some (.int x4), some (.int x5), some (.int 1)]) (st' := []) (fun _ => rfl) ?_
  exact f_M_moves_164 sp d N x0 x4 x5 N 1 S13 _ h
def B_M_moves_135 (N : Nat)  (rec135 : Int32 → pm_S → Option (Int32 × pm_S)) (x0 : Nat) (x4 : Int32) (x5 : Int32) (x6 : Int32) (S : pm_S) : Option (Int32 × pm_S) :=
    if 10 ≤ x6 then
    F_M_moves_156 N x0 x4 x5 S
    else
    ((oR S x0 11 55).bind fun oq29 => match oq29 with
    | none => none
    | some q29 =>
    (sI [2, 3] S q29 x6 0).bind fun S30 =>
    rec135 (x6 + 1) S30)
def F_M_moves_135 (N : Nat)  (x0 : Nat) (x4 : Int32) (x5 : Int32) : Nat → Int32 → pm_S → Option (Int32 × pm_S)
  | 0 => fun _ _ => none
  | n + 1 => fun x6 S => B_M_moves_135 N  (F_M_moves_135 N  x0 x4 x5 n) x0 x4 x5 x6 S
set_option maxHeartbeats 4000000 in
set_option maxRecDepth 20000 in
theorem f_M_moves_135 (sp : pm_I → List Value → pm_S → pm_O → Prop) (d N : Nat)  (x0 : Nat) (x4 : Int32) (x5 : Int32)  : ∀ (n : Nat) (x6 : Int32) (S : pm_S) (r : (Int32 × pm_S)), F_M_moves_135 N  x0 x4 x5 n x6 S = some r → pmE pG (pm_rel pG sp (d + 5)) mi_M_moves 135 [some (.ref x0), none, none, none, some (.int x4), some (.int x5), some (.int x6)] [] S (some (.int r.1), r.2) := by
  intro n
  induction n with
  | zero =>
    intro x6 S r h
    cases h
  | succ n ih =>
    intro x6 S r h
    replace h : B_M_moves_135 N  (F_M_moves_135 N  x0 x4 x5 n) x0 x4 x5 x6 S = some r := h
    have hrec135 := ih
    generalize F_M_moves_135 N  x0 x4 x5 n = rec135 at h hrec135
    unfold B_M_moves_135 at h
    refine pE_jump 2 (pc' := 139) (ls' := [some (.ref x0), none, none, none, some (.int x4), some (.int x5), some (.int x6)]) (st' := [.int 10, .int x6]) (fun _ => rfl) ?_
    refine pE_br (10 ≤ x6) rfl rfl (fun c31 => ?_) (fun c31 => ?_)
    · rw [if_pos c31] at h
      refine pE_weak [some (.ref x0), none, none, none, some (.int x4), some (.int x5), none] ⟨rfl, ⟨rfl, ⟨rfl, trivial⟩⟩⟩ ?_
      exact f_M_moves_156 sp d N x0 x4 x5 S _ h
    · rw [if_neg c31] at h
      refine pE_jump 1 (pc' := 143) (ls' := [some (.ref x0), none, none, none, some (.int x4), some (.int x5), some (.int x6)]) (st' := [.ref x0]) (fun _ => rfl) ?_
      obtain ⟨oq29, hq29, h⟩ := obind h
      cases oq29 with
      | none => cases h
      | some q29 =>
        try dsimp only at h
        refine pE_gfS rfl rfl hq29 ?_
        refine pE_jump 2 (pc' := 149) (ls' := [some (.ref x0), none, none, none, some (.int x4), some (.int x5), some (.int x6)]) (st' := [.int 0, .int x6, .ref q29]) (fun _ => rfl) ?_
        obtain ⟨S30, hS30, h⟩ := obind h
        refine pE_sI rfl rfl hS30 ?_
        refine pE_jump 2 (pc' := 135) (ls' := [some (.ref x0), none, none, none, some (.int x4), some (.int x5), some (.int (x6 + 1))]) (st' := []) (fun _ => rfl) ?_
        exact hrec135 (x6 + 1) S30 _ h
def F_M_moves_132 (N : Nat)  (x0 : Nat) (x4 : Int32) (x5 : Int32) (S : pm_S) : Option (Int32 × pm_S) :=
    F_M_moves_135 N x0 x4 x5 N 0 S
set_option maxHeartbeats 4000000 in
set_option maxRecDepth 20000 in
theorem f_M_moves_132 (sp : pm_I → List Value → pm_S → pm_O → Prop) (d N : Nat)  (x0 : Nat) (x4 : Int32) (x5 : Int32) (S : pm_S)  (r : (Int32 × pm_S)) (h : F_M_moves_132 N  x0 x4 x5 S = some r) : pmE pG (pm_rel pG sp (d + 5)) mi_M_moves 132 [some (.ref x0), none, none, none, some (.int x4), some (.int x5), none] [] S (some (.int r.1), r.2) := by
  unfold F_M_moves_132 at h
  refine pE_jump 2 (pc' := 135) (ls' := [some (.ref x0), none, none, none, some (.int x4), some (.int x5), some (.int 0)]) (st' := []) (fun _ => rfl) ?_
  exact f_M_moves_135 sp d N x0 x4 x5 N 0 S _ h
def F_M_moves_125_2 (N : Nat) (rec60 : Int32 → pm_S → Option (Int32 × pm_S)) (x0 : Nat) (x1 : Int32) (x4 : Int32) (x5 : Int32) (x6 : Int32) (t0 : Int32) (t1 : Int32) (t2 : Nat) (S : pm_S) : Option (Int32 × pm_S) :=
    (sI [2, 3] S t2 t1 t0).bind fun S41 =>
    rec60 (x6 + 1) S41
set_option maxHeartbeats 4000000 in
set_option maxRecDepth 20000 in
theorem f_M_moves_125_2 (sp : pm_I → List Value → pm_S → pm_O → Prop) (d N : Nat) (rec60 : Int32 → pm_S → Option (Int32 × pm_S)) (x0 : Nat) (x1 : Int32) (x4 : Int32) (x5 : Int32) (x6 : Int32) (t0 : Int32) (t1 : Int32) (t2 : Nat) (S : pm_S) (hrec60 : ∀ (y1 : Int32) (U : pm_S) (r : (Int32 × pm_S)), rec60 y1 U = some r → pmE pG (pm_rel pG sp (d + 5)) mi_M_moves 60 [some (.ref x0), some (.int x1), none, none, some (.int x4), some (.int x5), some (.int y1)] [] U (some (.int r.1), r.2)) (r : (Int32 × pm_S)) (h : F_M_moves_125_2 N rec60 x0 x1 x4 x5 x6 t0 t1 t2 S = some r) : pmE pG (pm_rel pG sp (d + 5)) mi_M_moves 125 [some (.ref x0), some (.int x1), none, none, some (.int x4), some (.int x5), some (.int x6)] [.int t0, .int t1, .ref t2] S (some (.int r.1), r.2) := by
  unfold F_M_moves_125_2 at h
  obtain ⟨S41, hS41, h⟩ := obind h
  refine pE_sI rfl rfl hS41 ?_
  refine pE_jump 2 (pc' := 60) (ls' := [some (.ref x0), some (.int x1), none, none, some (.int x4), some (.int x5), some (.int (x6 + 1))]) (st' := []) (fun _ => rfl) ?_
  exact hrec60 (x6 + 1) S41 _ h
def F_M_moves_124_2 (N : Nat) (rec60 : Int32 → pm_S → Option (Int32 × pm_S)) (x0 : Nat) (x1 : Int32) (x4 : Int32) (x5 : Int32) (x6 : Int32) (t0 : Int32) (t1 : Nat) (S : pm_S) : Option (Int32 × pm_S) :=
    F_M_moves_125_2 N rec60 x0 x1 x4 x5 x6 0 t0 t1 S
set_option maxHeartbeats 4000000 in
set_option maxRecDepth 20000 in
theorem f_M_moves_124_2 (sp : pm_I → List Value → pm_S → pm_O → Prop) (d N : Nat) (rec60 : Int32 → pm_S → Option (Int32 × pm_S)) (x0 : Nat) (x1 : Int32) (x4 : Int32) (x5 : Int32) (x6 : Int32) (t0 : Int32) (t1 : Nat) (S : pm_S) (hrec60 : ∀ (y1 : Int32) (U : pm_S) (r : (Int32 × pm_S)), rec60 y1 U = some r → pmE pG (pm_rel pG sp (d + 5)) mi_M_moves 60 [some (.ref x0), some (.int x1), none, none, some (.int x4), some (.int x5), some (.int y1)] [] U (some (.int r.1), r.2)) (r : (Int32 × pm_S)) (h : F_M_moves_124_2 N rec60 x0 x1 x4 x5 x6 t0 t1 S = some r) : pmE pG (pm_rel pG sp (d + 5)) mi_M_moves 124 [some (.ref x0), some (.int x1), none, none, some (.int x4), some (.int x5), some (.int x6)] [.int t0, .ref t1] S (some (.int r.1), r.2) := by
  unfold F_M_moves_124_2 at h
  refine pE_jump 1 (pc' := 125) (ls' := [some (.ref x0), some (.int x1), none, none, some (.int x4), some (.int x5), some (.int x6)]) (st' := [.int 0, .int t0, .ref t1]) (fun _ => rfl) ?_
  exact f_M_moves_125_2 sp d N rec60 x0 x1 x4 x5 x6 0 t0 t1 S hrec60 _ h
def B_M_moves_60 (N : Nat)  (rec60 : Int32 → pm_S → Option (Int32 × pm_S)) (x0 : Nat) (x1 : Int32) (x4 : Int32) (x5 : Int32) (x6 : Int32) (S : pm_S) : Option (Int32 × pm_S) :=
    if 6 ≤ x6 then
    F_M_moves_132 N x0 x4 x5 S
    else
    ((oR S x0 11 54).bind fun oq32 => match oq32 with
    | none => none
    | some q32 =>
    (oR S x0 11 10).bind fun oq39 => match oq39 with
    | none => none
    | some q39 =>
    (aI [0, 6] S q39 ((7 * x1) + x5)).bind fun v40 =>
    if v40 ≤ x6 then
    F_M_moves_124_2 N rec60 x0 x1 x4 x5 x6 x6 q32 S
    else
    ((oR S x0 11 26).bind fun oq42 => match oq42 with
    | none => none
    | some q42 =>
    (aI [0, 6] S q42 ((6 * x5) + x6)).bind fun v43 =>
    if v43 = (-1) then
    ((F_M_feeds N S x0 x5 x6).bind fun (v45, S44) =>
    if (lg_cmp v45 0) = 0 then
    F_M_moves_124_2 N rec60 x0 x1 x4 x5 x6 x6 q32 S44
    else
    F_M_moves_125_2 N rec60 x0 x1 x4 x5 x6 1 x6 q32 S44)
    else
    F_M_moves_124_2 N rec60 x0 x1 x4 x5 x6 x6 q32 S))
def F_M_moves_60 (N : Nat)  (x0 : Nat) (x1 : Int32) (x4 : Int32) (x5 : Int32) : Nat → Int32 → pm_S → Option (Int32 × pm_S)
  | 0 => fun _ _ => none
  | n + 1 => fun x6 S => B_M_moves_60 N  (F_M_moves_60 N  x0 x1 x4 x5 n) x0 x1 x4 x5 x6 S
set_option maxHeartbeats 4000000 in
set_option maxRecDepth 20000 in
theorem f_M_moves_60 (sp : pm_I → List Value → pm_S → pm_O → Prop) (d N : Nat)  (x0 : Nat) (x1 : Int32) (x4 : Int32) (x5 : Int32)  : ∀ (n : Nat) (x6 : Int32) (S : pm_S) (r : (Int32 × pm_S)), F_M_moves_60 N  x0 x1 x4 x5 n x6 S = some r → pmE pG (pm_rel pG sp (d + 5)) mi_M_moves 60 [some (.ref x0), some (.int x1), none, none, some (.int x4), some (.int x5), some (.int x6)] [] S (some (.int r.1), r.2) := by
  intro n
  induction n with
  | zero =>
    intro x6 S r h
    cases h
  | succ n ih =>
    intro x6 S r h
    replace h : B_M_moves_60 N  (F_M_moves_60 N  x0 x1 x4 x5 n) x0 x1 x4 x5 x6 S = some r := h
    have hrec60 := ih
    generalize F_M_moves_60 N  x0 x1 x4 x5 n = rec60 at h hrec60
    unfold B_M_moves_60 at h
    refine pE_jump 2 (pc' := 64) (ls' := [some (.ref x0), some (.int x1), none, none, some (.int x4), some (.int x5), some (.int x6)]) (st' := [.int 6, .int x6]) (fun _ => rfl) ?_
    refine pE_br (6 ≤ x6) rfl rfl (fun c49 => ?_) (fun c49 => ?_)
    · rw [if_pos c49] at h
      refine pE_weak [some (.ref x0), none, none, none, some (.int x4), some (.int x5), none] ⟨rfl, ⟨rfl, ⟨rfl, trivial⟩⟩⟩ ?_
      exact f_M_moves_132 sp d N x0 x4 x5 S _ h
    · rw [if_neg c49] at h
      refine pE_jump 1 (pc' := 68) (ls' := [some (.ref x0), some (.int x1), none, none, some (.int x4), some (.int x5), some (.int x6)]) (st' := [.ref x0]) (fun _ => rfl) ?_
      obtain ⟨oq32, hq32, h⟩ := obind h
      cases oq32 with
      | none => cases h
      | some q32 =>
        try dsimp only at h
        refine pE_gfS rfl rfl hq32 ?_
        refine pE_jump 3 (pc' := 76) (ls' := [some (.ref x0), some (.int x1), none, none, some (.int x4), some (.int x5), some (.int x6)]) (st' := [.ref x0, .int x6, .int x6, .ref q32]) (fun _ => rfl) ?_
        obtain ⟨oq39, hq39, h⟩ := obind h
        cases oq39 with
        | none => cases h
        | some q39 =>
          try dsimp only at h
          refine pE_gfS rfl rfl hq39 ?_
          refine pE_jump 5 (pc' := 86) (ls' := [some (.ref x0), some (.int x1), none, none, some (.int x4), some (.int x5), some (.int x6)]) (st' := [.int ((7 * x1) + x5), .ref q39, .int x6, .int x6, .ref q32]) (fun _ => rfl) ?_
          obtain ⟨v40, hv40, h⟩ := obind h
          refine pE_aI rfl rfl hv40 ?_
          refine pE_br (v40 ≤ x6) rfl rfl (fun c48 => ?_) (fun c48 => ?_)
          · rw [if_pos c48] at h
            exact f_M_moves_124_2 sp d N rec60 x0 x1 x4 x5 x6 x6 q32 S hrec60 _ h
          · rw [if_neg c48] at h
            refine pE_jump 1 (pc' := 91) (ls' := [some (.ref x0), some (.int x1), none, none, some (.int x4), some (.int x5), some (.int x6)]) (st' := [.ref x0, .int x6, .ref q32]) (fun _ => rfl) ?_
            obtain ⟨oq42, hq42, h⟩ := obind h
            cases oq42 with
            | none => cases h
            | some q42 =>
              try dsimp only at h
              refine pE_gfS rfl rfl hq42 ?_
              refine pE_jump 5 (pc' := 102) (ls' := [some (.ref x0), some (.int x1), none, none, some (.int x4), some (.int x5), some (.int x6)]) (st' := [.int ((6 * x5) + x6), .ref q42, .int x6, .ref q32]) (fun _ => rfl) ?_
              obtain ⟨v43, hv43, h⟩ := obind h
              refine pE_aI rfl rfl hv43 ?_
              refine pE_jump 1 (pc' := 104) (ls' := [some (.ref x0), some (.int x1), none, none, some (.int x4), some (.int x5), some (.int x6)]) (st' := [.int (-1), .int v43, .int x6, .ref q32]) (fun _ => rfl) ?_
              refine pE_br (¬ v43 = (-1)) rfl rfl (fun c47 => ?_) (fun c47 => ?_)
              · rw [if_neg c47] at h
                exact f_M_moves_124_2 sp d N rec60 x0 x1 x4 x5 x6 x6 q32 S hrec60 _ h
              · have c47 := Decidable.not_not.mp c47
                rw [if_pos c47] at h
                refine pE_jump 3 (pc' := 112) (ls' := [some (.ref x0), some (.int x1), none, none, some (.int x4), some (.int x5), some (.int x6)]) (st' := [.int x6, .int x5, .ref x0, .int x6, .ref q32]) (fun _ => rfl) ?_
                obtain ⟨⟨v45, S44⟩, hv45, h⟩ := obind h
                try dsimp only at h
                refine pE_iv (Bs := [.int x5, .int x6]) (st := [.int x6, .ref q32]) 1 rfl (Or.inl ⟨rfl, rfl⟩) rfl rfl (Nat.le_of_ble_eq_true rfl) (Nat.le_of_ble_eq_true rfl) (g_M_feeds hv45) (f_M_feeds sp d N S x0 x5 x6 _ hv45) ?_
                refine pE_jump 2 (pc' := 117) (ls' := [some (.ref x0), some (.int x1), none, none, some (.int x4), some (.int x5), some (.int x6)]) (st' := [.int (lg_cmp v45 0), .int x6, .ref q32]) (fun _ => rfl) ?_
                refine pE_br ((lg_cmp v45 0) = 0) rfl rfl (fun c46 => ?_) (fun c46 => ?_)
                · rw [if_pos c46] at h
                  exact f_M_moves_124_2 sp d N rec60 x0 x1 x4 x5 x6 x6 q32 S44 hrec60 _ h
                · rw [if_neg c46] at h
                  refine pE_jump 2 (pc' := 125) (ls' := [some (.ref x0), some (.int x1), none, none, some (.int x4), some (.int x5), some (.int x6)]) (st' := [.int 1, .int x6, .ref q32]) (fun _ => rfl) ?_
                  exact f_M_moves_125_2 sp d N rec60 x0 x1 x4 x5 x6 1 x6 q32 S44 hrec60 _ h
def F_M_moves (N : Nat) (S : pm_S) (a : Nat) (p0 : Int32) (p1 : Int32) (p2 : Int32) (p3 : Int32) : Option (Int32 × pm_S) :=
    if rcv S a 11 = true then
    ((wF S a 11 0 .int (.int 0)).bind fun S1 =>
    (F_M_isWorld N S1 a p0 p1).bind fun (v3, S2) =>
    if v3 = 0 then
    F_M_moves_40 N S2
    else
    ((oR S2 a 11 6).bind fun oq4 => match oq4 with
    | none => none
    | some q4 =>
    (aI [0, 6] S2 q4 p0).bind fun v5 =>
    (F_M_isIn N S2 p2 0 (v5 - 1)).bind fun (v7, S6) =>
    if v7 = 0 then
    F_M_moves_40 N S6
    else
    ((F_M_comesTo N S6 a p0 p2).bind fun (v9, S8) =>
    if v9 = (-1) then
    F_M_moves_40 N S8
    else
    ((F_M_comesTo N S8 a p0 p2).bind fun (v11, S10) =>
    (F_M_lay N S10 a p0 p1 0).bind fun S12 =>
    F_M_moves_60 N a p0 p3 v11 N 0 S12))))
    else none
theorem g_M_moves {N : Nat} {S : pm_S} {a : Nat} {p0 : Int32} {p1 : Int32} {p2 : Int32} {p3 : Int32} {r : (Int32 × pm_S)} (h : F_M_moves N S a p0 p1 p2 p3 = some r) : rcv S a 11 = true := by
  unfold F_M_moves at h
  by_cases c : rcv S a 11 = true
  · exact c
  · rw [if_neg c] at h; cases h
set_option maxHeartbeats 4000000 in
set_option maxRecDepth 20000 in
theorem f_M_moves (sp : pm_I → List Value → pm_S → pm_O → Prop) (d N : Nat) (S : pm_S) (a : Nat) (p0 : Int32) (p1 : Int32) (p2 : Int32) (p3 : Int32) (r : (Int32 × pm_S)) (h : F_M_moves N S a p0 p1 p2 p3 = some r) : pm_rel pG sp (d + 6) mi_M_moves [.ref a, .int p0, .int p1, .int p2, .int p3] S (some (.int r.1), r.2) := by
  have hg := g_M_moves h
  unfold F_M_moves at h
  rw [if_pos hg] at h
  refine pE_rel (d := d + 5) ?_
  show pmE pG _ mi_M_moves 0 [some (.ref a), some (.int p0), some (.int p1), some (.int p2), some (.int p3), none, none] [] S _
  refine pE_jump 2 (pc' := 2) (ls' := [some (.ref a), some (.int p0), some (.int p1), some (.int p2), some (.int p3), none, none]) (st' := [.int 0, .ref a]) (fun _ => rfl) ?_
  obtain ⟨S1, hS1, h⟩ := obind h
  refine pE_pf rfl rfl rfl hS1 ?_
  refine pE_jump 3 (pc' := 8) (ls' := [some (.ref a), some (.int p0), some (.int p1), some (.int p2), some (.int p3), none, none]) (st' := [.int p1, .int p0, .ref a]) (fun _ => rfl) ?_
  obtain ⟨⟨v3, S2⟩, hv3, h⟩ := obind h
  try dsimp only at h
  refine pE_iv (Bs := [.int p0, .int p1]) (st := []) 1 rfl (Or.inl ⟨rfl, rfl⟩) rfl rfl (Nat.le_of_ble_eq_true rfl) (Nat.le_of_ble_eq_true rfl) (g_M_isWorld hv3) (f_M_isWorld sp (d + 3) N S1 a p0 p1 _ hv3) ?_
  refine pE_br (v3 = 0) rfl rfl (fun c52 => ?_) (fun c52 => ?_)
  · rw [if_pos c52] at h
    refine pE_weak [none, none, none, none, none, none, none] trivial ?_
    exact f_M_moves_40 sp d N S2 _ h
  · rw [if_neg c52] at h
    refine pE_jump 3 (pc' := 17) (ls' := [some (.ref a), some (.int p0), some (.int p1), some (.int p2), some (.int p3), none, none]) (st' := [.ref a, .int 0, .int p2]) (fun _ => rfl) ?_
    obtain ⟨oq4, hq4, h⟩ := obind h
    cases oq4 with
    | none => cases h
    | some q4 =>
      try dsimp only at h
      refine pE_gfS rfl rfl hq4 ?_
      refine pE_jump 1 (pc' := 21) (ls' := [some (.ref a), some (.int p0), some (.int p1), some (.int p2), some (.int p3), none, none]) (st' := [.int p0, .ref q4, .int 0, .int p2]) (fun _ => rfl) ?_
      obtain ⟨v5, hv5, h⟩ := obind h
      refine pE_aI rfl rfl hv5 ?_
      refine pE_jump 2 (pc' := 24) (ls' := [some (.ref a), some (.int p0), some (.int p1), some (.int p2), some (.int p3), none, none]) (st' := [.int (v5 - 1), .int 0, .int p2]) (fun _ => rfl) ?_
      obtain ⟨⟨v7, S6⟩, hv7, h⟩ := obind h
      try dsimp only at h
      refine pE_is (Bs := [.int p2, .int 0, .int (v5 - 1)]) (st := []) rfl rfl rfl (Nat.le_of_ble_eq_true rfl) (Nat.le_of_ble_eq_true rfl) (f_M_isIn sp (d + 4) N S2 p2 0 (v5 - 1) _ hv7) ?_
      refine pE_br (v7 = 0) rfl rfl (fun c51 => ?_) (fun c51 => ?_)
      · rw [if_pos c51] at h
        refine pE_weak [none, none, none, none, none, none, none] trivial ?_
        exact f_M_moves_40 sp d N S6 _ h
      · rw [if_neg c51] at h
        refine pE_jump 3 (pc' := 33) (ls' := [some (.ref a), some (.int p0), some (.int p1), some (.int p2), some (.int p3), none, none]) (st' := [.int p2, .int p0, .ref a]) (fun _ => rfl) ?_
        obtain ⟨⟨v9, S8⟩, hv9, h⟩ := obind h
        try dsimp only at h
        refine pE_iv (Bs := [.int p0, .int p2]) (st := []) 1 rfl (Or.inl ⟨rfl, rfl⟩) rfl rfl (Nat.le_of_ble_eq_true rfl) (Nat.le_of_ble_eq_true rfl) (g_M_comesTo hv9) (f_M_comesTo sp (d + 4) N S6 a p0 p2 _ hv9) ?_
        refine pE_jump 1 (pc' := 37) (ls' := [some (.ref a), some (.int p0), some (.int p1), some (.int p2), some (.int p3), none, none]) (st' := [.int (-1), .int v9]) (fun _ => rfl) ?_
        refine pE_br (¬ v9 = (-1)) rfl rfl (fun c50 => ?_) (fun c50 => ?_)
        · rw [if_neg c50] at h
          refine pE_jump 3 (pc' := 45) (ls' := [some (.ref a), some (.int p0), some (.int p1), some (.int p2), some (.int p3), none, none]) (st' := [.int p2, .int p0, .ref a]) (fun _ => rfl) ?_
          obtain ⟨⟨v11, S10⟩, hv11, h⟩ := obind h
          try dsimp only at h
          refine pE_iv (Bs := [.int p0, .int p2]) (st := []) 1 rfl (Or.inl ⟨rfl, rfl⟩) rfl rfl (Nat.le_of_ble_eq_true rfl) (Nat.le_of_ble_eq_true rfl) (g_M_comesTo hv11) (f_M_comesTo sp (d + 4) N S8 a p0 p2 _ hv11) ?_
          refine pE_jump 5 (pc' := 54) (ls' := [some (.ref a), some (.int p0), some (.int p1), some (.int p2), some (.int p3), some (.int v11), none]) (st' := [.int 0, .int p1, .int p0, .ref a]) (fun _ => rfl) ?_
          obtain ⟨S12, hS12, h⟩ := obind h
          refine pE_iv (Bs := [.int p0, .int p1, .int 0]) (st := []) 1 rfl (Or.inl ⟨rfl, rfl⟩) rfl rfl (Nat.le_of_ble_eq_true rfl) (Nat.le_of_ble_eq_true rfl) (g_M_lay hS12) (f_M_lay sp (d + 2) N S10 a p0 p1 0 _ hS12) ?_
          refine pE_jump 2 (pc' := 60) (ls' := [some (.ref a), some (.int p0), some (.int p1), some (.int p2), some (.int p3), some (.int v11), some (.int 0)]) (st' := []) (fun _ => rfl) ?_
          refine pE_weak [some (.ref a), some (.int p0), none, none, some (.int p3), some (.int v11), some (.int 0)] ⟨rfl, ⟨rfl, ⟨rfl, ⟨rfl, ⟨rfl, trivial⟩⟩⟩⟩⟩ ?_
          exact f_M_moves_60 sp d N a p0 p3 v11 N 0 S12 _ h
        · have c50 := Decidable.not_not.mp c50
          rw [if_pos c50] at h
          refine pE_weak [none, none, none, none, none, none, none] trivial ?_
          exact f_M_moves_40 sp d N S8 _ h
