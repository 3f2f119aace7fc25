def F_Bench_isShared_55 (N : Nat)   (S : pm_S) : Option (Int32 × pm_S) :=
    some (0, S)
set_option maxHeartbeats 4000000 in
set_option maxRecDepth 20000 in
theorem f_Bench_isShared_55 (sp : pm_I → List Value → pm_S → pm_O → Prop) (d N : Nat)   (S : pm_S)  (r : (Int32 × pm_S)) (h : F_Bench_isShared_55 N   S = some r) : pmE pG (pm_rel pG sp (d + 0)) mi_Bench_isShared 55 [none, none, none] [] S (some (.int r.1), r.2) := by
  unfold F_Bench_isShared_55 at h
  refine pE_jump 1 (pc' := 56) (ls' := [none, none, none]) (st' := [.int 0]) (fun _ => rfl) ?_
  cases h
  exact pE_ret rfl rfl rfl
def F_Bench_isShared_49 (N : Nat) (rec2 : Int32 → pm_S → Option (Int32 × pm_S)) (x0 : Nat) (x1 : Int32) (x2 : Int32) (S : pm_S) : Option (Int32 × pm_S) :=
    rec2 (x2 + 1) S
set_option maxHeartbeats 4000000 in
set_option maxRecDepth 20000 in
theorem f_Bench_isShared_49 (sp : pm_I → List Value → pm_S → pm_O → Prop) (d N : Nat) (rec2 : Int32 → pm_S → Option (Int32 × pm_S)) (x0 : Nat) (x1 : Int32) (x2 : Int32) (S : pm_S) (hrec2 : ∀ (y1 : Int32) (U : pm_S) (r : (Int32 × pm_S)), rec2 y1 U = some r → pmE pG (pm_rel pG sp (d + 0)) mi_Bench_isShared 2 [some (.ref x0), some (.int x1), some (.int y1)] [] U (some (.int r.1), r.2)) (r : (Int32 × pm_S)) (h : F_Bench_isShared_49 N rec2 x0 x1 x2 S = some r) : pmE pG (pm_rel pG sp (d + 0)) mi_Bench_isShared 49 [some (.ref x0), some (.int x1), some (.int x2)] [] S (some (.int r.1), r.2) := by
  unfold F_Bench_isShared_49 at h
  refine pE_jump 2 (pc' := 2) (ls' := [some (.ref x0), some (.int x1), some (.int (x2 + 1))]) (st' := []) (fun _ => rfl) ?_
  exact hrec2 (x2 + 1) S _ h
def F_Bench_isShared_47 (N : Nat)   (S : pm_S) : Option (Int32 × pm_S) :=
    some (1, S)
set_option maxHeartbeats 4000000 in
set_option maxRecDepth 20000 in
theorem f_Bench_isShared_47 (sp : pm_I → List Value → pm_S → pm_O → Prop) (d N : Nat)   (S : pm_S)  (r : (Int32 × pm_S)) (h : F_Bench_isShared_47 N   S = some r) : pmE pG (pm_rel pG sp (d + 0)) mi_Bench_isShared 47 [none, none, none] [] S (some (.int r.1), r.2) := by
  unfold F_Bench_isShared_47 at h
  refine pE_jump 1 (pc' := 48) (ls' := [none, none, none]) (st' := [.int 1]) (fun _ => rfl) ?_
  cases h
  exact pE_ret rfl rfl rfl
def B_Bench_isShared_2 (N : Nat)  (rec2 : Int32 → pm_S → Option (Int32 × pm_S)) (x0 : Nat) (x1 : Int32) (x2 : Int32) (S : pm_S) : Option (Int32 × pm_S) :=
    (oR S x0 0 2).bind fun oq1 => match oq1 with
    | none => none
    | some q1 =>
    (aNS S q1).bind fun v2 =>
    if v2 ≤ x2 then
    F_Bench_isShared_55 N S
    else
    (if x1 < 0 then
    F_Bench_isShared_49 N rec2 x0 x1 x2 S
    else
    ((oR S x0 0 2).bind fun oq3 => match oq3 with
    | none => none
    | some q3 =>
    (aNS S q3).bind fun v4 =>
    if v4 ≤ x1 then
    F_Bench_isShared_49 N rec2 x0 x1 x2 S
    else
    (if x2 = x1 then
    F_Bench_isShared_49 N rec2 x0 x1 x2 S
    else
    ((oR S x0 0 2).bind fun oq5 => match oq5 with
    | none => none
    | some q5 =>
    (aJ S q5 x2).bind fun v6 =>
    (oR S x0 0 2).bind fun oq7 => match oq7 with
    | none => none
    | some q7 =>
    (aJ S q7 x1).bind fun v8 =>
    if (lg_cmp (v6 &&& v8) 0) = 0 then
    F_Bench_isShared_49 N rec2 x0 x1 x2 S
    else
    F_Bench_isShared_47 N S))))
def F_Bench_isShared_2 (N : Nat)  (x0 : Nat) (x1 : Int32) : Nat → Int32 → pm_S → Option (Int32 × pm_S)
  | 0 => fun _ _ => none
  | n + 1 => fun x2 S => B_Bench_isShared_2 N  (F_Bench_isShared_2 N  x0 x1 n) x0 x1 x2 S
set_option maxHeartbeats 4000000 in
set_option maxRecDepth 20000 in
theorem f_Bench_isShared_2 (sp : pm_I → List Value → pm_S → pm_O → Prop) (d N : Nat)  (x0 : Nat) (x1 : Int32)  : ∀ (n : Nat) (x2 : Int32) (S : pm_S) (r : (Int32 × pm_S)), F_Bench_isShared_2 N  x0 x1 n x2 S = some r → pmE pG (pm_rel pG sp (d + 0)) mi_Bench_isShared 2 [some (.ref x0), some (.int x1), some (.int x2)] [] S (some (.int r.1), r.2) := by
  intro n
  induction n with
  | zero =>
    intro x2 S r h
    cases h
  | succ n ih =>
    intro x2 S r h
    replace h : B_Bench_isShared_2 N  (F_Bench_isShared_2 N  x0 x1 n) x0 x1 x2 S = some r := h
    have hrec2 := ih
    generalize F_Bench_isShared_2 N  x0 x1 n = rec2 at h hrec2
    unfold B_Bench_isShared_2 at h
    refine pE_jump 2 (pc' := 4) (ls' := [some (.ref x0), some (.int x1), some (.int x2)]) (st' := [.ref x0, .int x2]) (fun _ => rfl) ?_
    obtain ⟨oq1, hq1, h⟩ := obind h
    cases oq1 with
    | none => cases h
    | some q1 =>
      try dsimp only at h
      refine pE_gfS rfl rfl hq1 ?_
      obtain ⟨v2, hv2, h⟩ := obind h
      refine pE_aN rfl hv2 ?_
      refine pE_br (v2 ≤ x2) rfl rfl (fun c13 => ?_) (fun c13 => ?_)
      · rw [if_pos c13] at h
        refine pE_weak [none, none, none] trivial ?_
        exact f_Bench_isShared_55 sp d N S _ h
      · rw [if_neg c13] at h
        refine pE_jump 1 (pc' := 12) (ls' := [some (.ref x0), some (.int x1), some (.int x2)]) (st' := [.int x1]) (fun _ => rfl) ?_
        refine pE_br (x1 < 0) rfl rfl (fun c12 => ?_) (fun c12 => ?_)
        · rw [if_pos c12] at h
          exact f_Bench_isShared_49 sp d N rec2 x0 x1 x2 S hrec2 _ h
        · rw [if_neg c12] at h
          refine pE_jump 2 (pc' := 17) (ls' := [some (.ref x0), some (.int x1), some (.int x2)]) (st' := [.ref x0, .int x1]) (fun _ => rfl) ?_
          obtain ⟨oq3, hq3, h⟩ := obind h
          cases oq3 with
          | none => cases h
          | some q3 =>
            try dsimp only at h
            refine pE_gfS rfl rfl hq3 ?_
            obtain ⟨v4, hv4, h⟩ := obind h
            refine pE_aN rfl hv4 ?_
            refine pE_br (v4 ≤ x1) rfl rfl (fun c11 => ?_) (fun c11 => ?_)
            · rw [if_pos c11] at h
              exact f_Bench_isShared_49 sp d N rec2 x0 x1 x2 S hrec2 _ h
            · rw [if_neg c11] at h
              refine pE_jump 2 (pc' := 26) (ls' := [some (.ref x0), some (.int x1), some (.int x2)]) (st' := [.int x1, .int x2]) (fun _ => rfl) ?_
              refine pE_br (x2 = x1) rfl rfl (fun c10 => ?_) (fun c10 => ?_)
              · rw [if_pos c10] at h
                exact f_Bench_isShared_49 sp d N rec2 x0 x1 x2 S hrec2 _ h
              · rw [if_neg c10] at h
                refine pE_jump 1 (pc' := 30) (ls' := [some (.ref x0), some (.int x1), some (.int x2)]) (st' := [.ref x0]) (fun _ => rfl) ?_
                obtain ⟨oq5, hq5, h⟩ := obind h
                cases oq5 with
                | none => cases h
                | some q5 =>
                  try dsimp only at h
                  refine pE_gfS rfl rfl hq5 ?_
                  refine pE_jump 1 (pc' := 34) (ls' := [some (.ref x0), some (.int x1), some (.int x2)]) (st' := [.int x2, .ref q5]) (fun _ => rfl) ?_
                  obtain ⟨v6, hv6, h⟩ := obind h
                  refine pE_aJ rfl hv6 ?_
                  refine pE_jump 1 (pc' := 36) (ls' := [some (.ref x0), some (.int x1), some (.int x2)]) (st' := [.ref x0, .long v6]) (fun _ => rfl) ?_
                  obtain ⟨oq7, hq7, h⟩ := obind h
                  cases oq7 with
                  | none => cases h
                  | some q7 =>
                    try dsimp only at h
                    refine pE_gfS rfl rfl hq7 ?_
                    refine pE_jump 1 (pc' := 40) (ls' := [some (.ref x0), some (.int x1), some (.int x2)]) (st' := [.int x1, .ref q7, .long v6]) (fun _ => rfl) ?_
                    obtain ⟨v8, hv8, h⟩ := obind h
                    refine pE_aJ rfl hv8 ?_
                    refine pE_jump 3 (pc' := 44) (ls' := [some (.ref x0), some (.int x1), some (.int x2)]) (st' := [.int (lg_cmp (v6 &&& v8) 0)]) (fun _ => rfl) ?_
                    refine pE_br ((lg_cmp (v6 &&& v8) 0) = 0) rfl rfl (fun c9 => ?_) (fun c9 => ?_)
                    · rw [if_pos c9] at h
                      exact f_Bench_isShared_49 sp d N rec2 x0 x1 x2 S hrec2 _ h
                    · rw [if_neg c9] at h
                      refine pE_weak [none, none, none] trivial ?_
                      exact f_Bench_isShared_47 sp d N S _ h
def F_Bench_isShared (N : Nat) (S : pm_S) (a : Nat) (p0 : Int32) : Option (Int32 × pm_S) :=
    if rcv S a 0 = true then
    (F_Bench_isShared_2 N a p0 N 0 S)
    else none
theorem g_Bench_isShared {N : Nat} {S : pm_S} {a : Nat} {p0 : Int32} {r : (Int32 × pm_S)} (h : F_Bench_isShared N S a p0 = some r) : rcv S a 0 = true := by
  unfold F_Bench_isShared at h
  by_cases c : rcv S a 0 = true
  · exact c
  · rw [if_neg c] at h; cases h
set_option maxHeartbeats 4000000 in
set_option maxRecDepth 20000 in
theorem f_Bench_isShared (sp : pm_I → List Value → pm_S → pm_O → Prop) (d N : Nat) (S : pm_S) (a : Nat) (p0 : Int32) (r : (Int32 × pm_S)) (h : F_Bench_isShared N S a p0 = some r) : pm_rel pG sp (d + 1) mi_Bench_isShared [.ref a, .int p0] S (some (.int r.1), r.2) := by
  have hg := g_Bench_isShared h
  unfold F_Bench_isShared at h
  rw [if_pos hg] at h
  refine pE_rel (d := d + 0) ?_
  show pmE pG _ mi_Bench_isShared 0 [some (.ref a), some (.int p0), none] [] S _
  refine pE_jump 2 (pc' := 2) (ls' := [some (.ref a), some (.int p0), some (.int 0)]) (st' := []) (fun _ => rfl) ?_
  exact f_Bench_isShared_2 sp d N a p0 N 0 S _ h
def F_Bench_servedHouses_93 (N : Nat)  (x2 : Int32) (S : pm_S) : Option (Int32 × pm_S) :=
    some (x2, S)
set_option maxHeartbeats 4000000 in
set_option maxRecDepth 20000 in
theorem f_Bench_servedHouses_93 (sp : pm_I → List Value → pm_S → pm_O → Prop) (d N : Nat)  (x2 : Int32) (S : pm_S)  (r : (Int32 × pm_S)) (h : F_Bench_servedHouses_93 N  x2 S = some r) : pmE pG (pm_rel pG sp (d + 5)) mi_Bench_servedHouses 93 [none, none, some (.int x2), none] [] S (some (.int r.1), r.2) := by
  unfold F_Bench_servedHouses_93 at h
  refine pE_jump 1 (pc' := 94) (ls' := [none, none, some (.int x2), none]) (st' := [.int x2]) (fun _ => rfl) ?_
  cases h
  exact pE_ret rfl rfl rfl
def F_Bench_servedHouses_87 (N : Nat) (rec51 : Int32 → Int32 → pm_S → Option (Int32 × pm_S)) (x0 : Nat) (x2 : Int32) (x3 : Int32) (S : pm_S) : Option (Int32 × pm_S) :=
    rec51 x2 (x3 + 1) S
set_option maxHeartbeats 4000000 in
set_option maxRecDepth 20000 in
theorem f_Bench_servedHouses_87 (sp : pm_I → List Value → pm_S → pm_O → Prop) (d N : Nat) (rec51 : Int32 → Int32 → pm_S → Option (Int32 × pm_S)) (x0 : Nat) (x2 : Int32) (x3 : Int32) (S : pm_S) (hrec51 : ∀ (y1 : Int32) (y2 : Int32) (U : pm_S) (r : (Int32 × pm_S)), rec51 y1 y2 U = some r → pmE pG (pm_rel pG sp (d + 5)) mi_Bench_servedHouses 51 [some (.ref x0), none, some (.int y1), some (.int y2)] [] U (some (.int r.1), r.2)) (r : (Int32 × pm_S)) (h : F_Bench_servedHouses_87 N rec51 x0 x2 x3 S = some r) : pmE pG (pm_rel pG sp (d + 5)) mi_Bench_servedHouses 87 [some (.ref x0), none, some (.int x2), some (.int x3)] [] S (some (.int r.1), r.2) := by
  unfold F_Bench_servedHouses_87 at h
  refine pE_jump 2 (pc' := 51) (ls' := [some (.ref x0), none, some (.int x2), some (.int (x3 + 1))]) (st' := []) (fun _ => rfl) ?_
  exact hrec51 x2 (x3 + 1) S _ h
def B_Bench_servedHouses_51 (N : Nat)  (rec51 : Int32 → Int32 → pm_S → Option (Int32 × pm_S)) (x0 : Nat) (x2 : Int32) (x3 : Int32) (S : pm_S) : Option (Int32 × pm_S) :=
    (oR S x0 0 2).bind fun oq3 => match oq3 with
    | none => none
    | some q3 =>
    (aNS S q3).bind fun v4 =>
    if v4 ≤ x3 then
    F_Bench_servedHouses_93 N x2 S
    else
    ((oR S x0 0 2).bind fun oq5 => match oq5 with
    | none => none
    | some q5 =>
    (aJ S q5 x3).bind fun v6 =>
    (F_Lng_bitCount N S v6).bind fun (v8, S7) =>
    if v8 = 1 then
    ((F_Bench_isShared N S7 x0 x3).bind fun (v10, S9) =>
    if v10 = 0 then
    F_Bench_servedHouses_87 N rec51 x0 (x2 ||| (1 <<< (x3 &&& 31))) x3 S9
    else
    F_Bench_servedHouses_87 N rec51 x0 x2 x3 S9)
    else
    F_Bench_servedHouses_87 N rec51 x0 x2 x3 S7)
def F_Bench_servedHouses_51 (N : Nat)  (x0 : Nat) : Nat → Int32 → Int32 → pm_S → Option (Int32 × pm_S)
  | 0 => fun _ _ _ => none
  | n + 1 => fun x2 x3 S => B_Bench_servedHouses_51 N  (F_Bench_servedHouses_51 N  x0 n) x0 x2 x3 S
set_option maxHeartbeats 4000000 in
set_option maxRecDepth 20000 in
theorem f_Bench_servedHouses_51 (sp : pm_I → List Value → pm_S → pm_O → Prop) (d N : Nat)  (x0 : Nat)  : ∀ (n : Nat) (x2 : Int32) (x3 : Int32) (S : pm_S) (r : (Int32 × pm_S)), F_Bench_servedHouses_51 N  x0 n x2 x3 S = some r → pmE pG (pm_rel pG sp (d + 5)) mi_Bench_servedHouses 51 [some (.ref x0), none, some (.int x2), some (.int x3)] [] S (some (.int r.1), r.2) := by
  intro n
  induction n with
  | zero =>
    intro x2 x3 S r h
    cases h
  | succ n ih =>
    intro x2 x3 S r h
    replace h : B_Bench_servedHouses_51 N  (F_Bench_servedHouses_51 N  x0 n) x0 x2 x3 S = some r := h
    have hrec51 := ih
    generalize F_Bench_servedHouses_51 N  x0 n = rec51 at h hrec51
    unfold B_Bench_servedHouses_51 at h
    refine pE_jump 2 (pc' := 53) (ls' := [some (.ref x0), none, some (.int x2), some (.int x3)]) (st' := [.ref x0, .int x3]) (fun _ => rfl) ?_
    obtain ⟨oq3, hq3, h⟩ := obind h
    cases oq3 with
    | none => cases h
    | some q3 =>
      try dsimp only at h
      refine pE_gfS rfl rfl hq3 ?_
      obtain ⟨v4, hv4, h⟩ := obind h
      refine pE_aN rfl hv4 ?_
      refine pE_br (v4 ≤ x3) rfl rfl (fun c13 => ?_) (fun c13 => ?_)
      · rw [if_pos c13] at h
        refine pE_weak [none, none, some (.int x2), none] ⟨rfl, trivial⟩ ?_
        exact f_Bench_servedHouses_93 sp d N x2 S _ h
      · rw [if_neg c13] at h
        refine pE_jump 1 (pc' := 61) (ls' := [some (.ref x0), none, some (.int x2), some (.int x3)]) (st' := [.ref x0]) (fun _ => rfl) ?_
        obtain ⟨oq5, hq5, h⟩ := obind h
        cases oq5 with
        | none => cases h
        | some q5 =>
          try dsimp only at h
          refine pE_gfS rfl rfl hq5 ?_
          refine pE_jump 1 (pc' := 65) (ls' := [some (.ref x0), none, some (.int x2), some (.int x3)]) (st' := [.int x3, .ref q5]) (fun _ => rfl) ?_
          obtain ⟨v6, hv6, h⟩ := obind h
          refine pE_aJ rfl hv6 ?_
          obtain ⟨⟨v8, S7⟩, hv8, h⟩ := obind h
          try dsimp only at h
          refine pE_is (Bs := [.long v6]) (st := []) rfl rfl rfl (Nat.le_of_ble_eq_true rfl) (Nat.le_of_ble_eq_true rfl) (f_Lng_bitCount sp (d + 4) N S v6 _ hv8) ?_
          refine pE_jump 1 (pc' := 70) (ls' := [some (.ref x0), none, some (.int x2), some (.int x3)]) (st' := [.int 1, .int v8]) (fun _ => rfl) ?_
          refine pE_br (¬ v8 = 1) rfl rfl (fun c12 => ?_) (fun c12 => ?_)
          · rw [if_neg c12] at h
            exact f_Bench_servedHouses_87 sp d N rec51 x0 x2 x3 S7 hrec51 _ h
          · have c12 := Decidable.not_not.mp c12
            rw [if_pos c12] at h
            refine pE_jump 2 (pc' := 75) (ls' := [some (.ref x0), none, some (.int x2), some (.int x3)]) (st' := [.int x3, .ref x0]) (fun _ => rfl) ?_
            obtain ⟨⟨v10, S9⟩, hv10, h⟩ := obind h
            try dsimp only at h
            refine pE_iv (Bs := [.int x3]) (st := []) 1 rfl (Or.inl ⟨rfl, rfl⟩) rfl rfl (Nat.le_of_ble_eq_true rfl) (Nat.le_of_ble_eq_true rfl) (g_Bench_isShared hv10) (f_Bench_isShared sp (d + 4) N S7 x0 x3 _ hv10) ?_
            refine pE_br (¬ v10 = 0) rfl rfl (fun c11 => ?_) (fun c11 => ?_)
            · rw [if_neg c11] at h
              exact f_Bench_servedHouses_87 sp d N rec51 x0 x2 x3 S9 hrec51 _ h
            · have c11 := Decidable.not_not.mp c11
              rw [if_pos c11] at h
              refine pE_jump 6 (pc' := 87) (ls' := [some (.ref x0), none, some (.int (x2 ||| (1 <<< (x3 &&& 31)))), some (.int x3)]) (st' := []) (fun _ => rfl) ?_
              exact f_Bench_servedHouses_87 sp d N rec51 x0 (x2 ||| (1 <<< (x3 &&& 31))) x3 S9 hrec51 _ h
def F_Bench_servedHouses_47 (N : Nat)  (x0 : Nat) (S : pm_S) : Option (Int32 × pm_S) :=
    F_Bench_servedHouses_51 N x0 N 0 0 S
set_option maxHeartbeats 4000000 in
set_option maxRecDepth 20000 in
theorem f_Bench_servedHouses_47 (sp : pm_I → List Value → pm_S → pm_O → Prop) (d N : Nat)  (x0 : Nat) (S : pm_S)  (r : (Int32 × pm_S)) (h : F_Bench_servedHouses_47 N  x0 S = some r) : pmE pG (pm_rel pG sp (d + 5)) mi_Bench_servedHouses 47 [some (.ref x0), none, none, none] [] S (some (.int r.1), r.2) := by
  unfold F_Bench_servedHouses_47 at h
  refine pE_jump 4 (pc' := 51) (ls' := [some (.ref x0), none, some (.int 0), some (.int 0)]) (st' := []) (fun _ => rfl) ?_
  exact f_Bench_servedHouses_51 sp d N x0 N 0 0 S _ h
def F_Bench_servedHouses_40_2 (N : Nat) (rec2 : Int32 → pm_S → Option (Int32 × pm_S)) (x0 : Nat) (x1 : Int32) (x2 : Int32) (t0 : Int64) (t1 : Int32) (t2 : Nat) (S : pm_S) : Option (Int32 × pm_S) :=
    (sJ S t2 t1 t0).bind fun S20 =>
    rec2 (x2 + 1) S20
set_option maxHeartbeats 4000000 in
set_option maxRecDepth 20000 in
theorem f_Bench_servedHouses_40_2 (sp : pm_I → List Value → pm_S → pm_O → Prop) (d N : Nat) (rec2 : Int32 → pm_S → Option (Int32 × pm_S)) (x0 : Nat) (x1 : Int32) (x2 : Int32) (t0 : Int64) (t1 : Int32) (t2 : Nat) (S : pm_S) (hrec2 : ∀ (y1 : Int32) (U : pm_S) (r : (Int32 × pm_S)), rec2 y1 U = some r → pmE pG (pm_rel pG sp (d + 5)) mi_Bench_servedHouses 2 [some (.ref x0), some (.int x1), some (.int y1), none] [] U (some (.int r.1), r.2)) (r : (Int32 × pm_S)) (h : F_Bench_servedHouses_40_2 N rec2 x0 x1 x2 t0 t1 t2 S = some r) : pmE pG (pm_rel pG sp (d + 5)) mi_Bench_servedHouses 40 [some (.ref x0), some (.int x1), some (.int x2), none] [.long t0, .int t1, .ref t2] S (some (.int r.1), r.2) := by
  unfold F_Bench_servedHouses_40_2 at h
  obtain ⟨S20, hS20, h⟩ := obind h
  refine pE_sJ rfl hS20 ?_
  refine pE_jump 2 (pc' := 2) (ls' := [some (.ref x0), some (.int x1), some (.int (x2 + 1)), none]) (st' := []) (fun _ => rfl) ?_
  exact hrec2 (x2 + 1) S20 _ h
def B_Bench_servedHouses_2 (N : Nat)  (rec2 : Int32 → pm_S → Option (Int32 × pm_S)) (x0 : Nat) (x1 : Int32) (x2 : Int32) (S : pm_S) : Option (Int32 × pm_S) :=
    (oR S x0 0 2).bind fun oq1 => match oq1 with
    | none => none
    | some q1 =>
    (aNS S q1).bind fun v2 =>
    if v2 ≤ x2 then
    F_Bench_servedHouses_47 N x0 S
    else
    ((oR S x0 0 0).bind fun oq14 => match oq14 with
    | none => none
    | some q14 =>
    (F_Wires_homeOf N S q14 x2).bind fun (v16, S15) =>
    (oR S15 x0 0 2).bind fun oq17 => match oq17 with
    | none => none
    | some q17 =>
    if v16 = (-1) then
    F_Bench_servedHouses_40_2 N rec2 x0 x1 x2 0 x2 q17 S15
    else
    ((F_Bench_feedersOf N S15 x0 v16 x1).bind fun (v22, S21) =>
    F_Bench_servedHouses_40_2 N rec2 x0 x1 x2 v22 x2 q17 S21))
def F_Bench_servedHouses_2 (N : Nat)  (x0 : Nat) (x1 : Int32) : Nat → Int32 → pm_S → Option (Int32 × pm_S)
  | 0 => fun _ _ => none
  | n + 1 => fun x2 S => B_Bench_servedHouses_2 N  (F_Bench_servedHouses_2 N  x0 x1 n) x0 x1 x2 S
set_option maxHeartbeats 4000000 in
set_option maxRecDepth 20000 in
theorem f_Bench_servedHouses_2 (sp : pm_I → List Value → pm_S → pm_O → Prop) (d N : Nat)  (x0 : Nat) (x1 : Int32)  : ∀ (n : Nat) (x2 : Int32) (S : pm_S) (r : (Int32 × pm_S)), F_Bench_servedHouses_2 N  x0 x1 n x2 S = some r → pmE pG (pm_rel pG sp (d + 5)) mi_Bench_servedHouses 2 [some (.ref x0), some (.int x1), some (.int x2), none] [] S (some (.int r.1), r.2) := by
  intro n
  induction n with
  | zero =>
    intro x2 S r h
    cases h
  | succ n ih =>
    intro x2 S r h
    replace h : B_Bench_servedHouses_2 N  (F_Bench_servedHouses_2 N  x0 x1 n) x0 x1 x2 S = some r := h
    have hrec2 := ih
    generalize F_Bench_servedHouses_2 N  x0 x1 n = rec2 at h hrec2
    unfold B_Bench_servedHouses_2 at h
    refine pE_jump 2 (pc' := 4) (ls' := [some (.ref x0), some (.int x1), some (.int x2), none]) (st' := [.ref x0, .int x2]) (fun _ => rfl) ?_
    obtain ⟨oq1, hq1, h⟩ := obind h
    cases oq1 with
    | none => cases h
    | some q1 =>
      try dsimp only at h
      refine pE_gfS rfl rfl hq1 ?_
      obtain ⟨v2, hv2, h⟩ := obind h
      refine pE_aN rfl hv2 ?_
      refine pE_br (v2 ≤ x2) rfl rfl (fun c24 => ?_) (fun c24 => ?_)
      · rw [if_pos c24] at h
        refine pE_weak [some (.ref x0), none, none, none] ⟨rfl, trivial⟩ ?_
        exact f_Bench_servedHouses_47 sp d N x0 S _ h
      · rw [if_neg c24] at h
        refine pE_jump 1 (pc' := 12) (ls' := [some (.ref x0), some (.int x1), some (.int x2), none]) (st' := [.ref x0]) (fun _ => rfl) ?_
        obtain ⟨oq14, hq14, h⟩ := obind h
        cases oq14 with
        | none => cases h
        | some q14 =>
          try dsimp only at h
          refine pE_gfS rfl rfl hq14 ?_
          refine pE_jump 1 (pc' := 16) (ls' := [some (.ref x0), some (.int x1), some (.int x2), none]) (st' := [.int x2, .ref q14]) (fun _ => rfl) ?_
          obtain ⟨⟨v16, S15⟩, hv16, h⟩ := obind h
          try dsimp only at h
          refine pE_iv (Bs := [.int x2]) (st := []) 1 rfl (Or.inl ⟨rfl, rfl⟩) rfl rfl (Nat.le_of_ble_eq_true rfl) (Nat.le_of_ble_eq_true rfl) (g_Wires_homeOf hv16) (f_Wires_homeOf sp (d + 3) N S q14 x2 _ hv16) ?_
          refine pE_jump 2 (pc' := 21) (ls' := [some (.ref x0), some (.int x1), some (.int x2), some (.int v16)]) (st' := [.ref x0]) (fun _ => rfl) ?_
          obtain ⟨oq17, hq17, h⟩ := obind h
          cases oq17 with
          | none => cases h
          | some q17 =>
            try dsimp only at h
            refine pE_gfS rfl rfl hq17 ?_
            refine pE_jump 3 (pc' := 27) (ls' := [some (.ref x0), some (.int x1), some (.int x2), some (.int v16)]) (st' := [.int (-1), .int v16, .int x2, .ref q17]) (fun _ => rfl) ?_
            refine pE_br (¬ v16 = (-1)) rfl rfl (fun c23 => ?_) (fun c23 => ?_)
            · rw [if_neg c23] at h
              refine pE_jump 3 (pc' := 37) (ls' := [some (.ref x0), some (.int x1), some (.int x2), some (.int v16)]) (st' := [.int x1, .int v16, .ref x0, .int x2, .ref q17]) (fun _ => rfl) ?_
              obtain ⟨⟨v22, S21⟩, hv22, h⟩ := obind h
              try dsimp only at h
              refine pE_iv (Bs := [.int v16, .int x1]) (st := [.int x2, .ref q17]) 1 rfl (Or.inl ⟨rfl, rfl⟩) rfl rfl (Nat.le_of_ble_eq_true rfl) (Nat.le_of_ble_eq_true rfl) (g_Bench_feedersOf hv22) (f_Bench_feedersOf sp d N S15 x0 v16 x1 _ hv22) ?_
              refine pE_weak [some (.ref x0), some (.int x1), some (.int x2), none] ⟨rfl, ⟨rfl, ⟨rfl, trivial⟩⟩⟩ ?_
              exact f_Bench_servedHouses_40_2 sp d N rec2 x0 x1 x2 v22 x2 q17 S21 hrec2 _ h
            · have c23 := Decidable.not_not.mp c23
              rw [if_pos c23] at h
              refine pE_jump 2 (pc' := 40) (ls' := [some (.ref x0), some (.int x1), some (.int x2), some (.int v16)]) (st' := [.long 0, .int x2, .ref q17]) (fun _ => rfl) ?_
              refine pE_weak [some (.ref x0), some (.int x1), some (.int x2), none] ⟨rfl, ⟨rfl, ⟨rfl, trivial⟩⟩⟩ ?_
              exact f_Bench_servedHouses_40_2 sp d N rec2 x0 x1 x2 0 x2 q17 S15 hrec2 _ h
def F_Bench_servedHouses (N : Nat) (S : pm_S) (a : Nat) (p0 : Int32) : Option (Int32 × pm_S) :=
    if rcv S a 0 = true then
    (F_Bench_servedHouses_2 N a p0 N 0 S)
    else none
theorem g_Bench_servedHouses {N : Nat} {S : pm_S} {a : Nat} {p0 : Int32} {r : (Int32 × pm_S)} (h : F_Bench_servedHouses N S a p0 = some r) : rcv S a 0 = true := by
  unfold F_Bench_servedHouses at h
  by_cases c : rcv S a 0 = true
  · exact c
  · rw [if_neg c] at h; cases h
set_option maxHeartbeats 4000000 in
set_option maxRecDepth 20000 in
theorem f_Bench_servedHouses (sp : pm_I → List Value → pm_S → pm_O → Prop) (d N : Nat) (S : pm_S) (a : Nat) (p0 : Int32) (r : (Int32 × pm_S)) (h : F_Bench_servedHouses N S a p0 = some r) : pm_rel pG sp (d + 6) mi_Bench_servedHouses [.ref a, .int p0] S (some (.int r.1), r.2) := by
  have hg := g_Bench_servedHouses h
  unfold F_Bench_servedHouses at h
  rw [if_pos hg] at h
  refine pE_rel (d := d + 5) ?_
  show pmE pG _ mi_Bench_servedHouses 0 [some (.ref a), some (.int p0), none, none] [] S _
  refine pE_jump 2 (pc' := 2) (ls' := [some (.ref a), some (.int p0), some (.int 0), none]) (st' := []) (fun _ => rfl) ?_
  exact f_Bench_servedHouses_2 sp d N a p0 N 0 S _ h
def F_BP_served (N : Nat) (S : pm_S) (a : Nat) (p0 : Int32) (p1 : Int32) (p2 : Int32) : Option (Int32 × pm_S) :=
    if rcv S a 10 = true then
    ((F_BP_planWith N S a p0 p1).bind fun (oq2, S1) => match oq2 with
    | none => some ((-1), S1)
    | some q2 =>
    (oR S1 a 10 3).bind fun oq3 => match oq3 with
    | none => none
    | some q3 =>
    (oR S1 q3 0 0).bind fun oq4 => match oq4 with
    | none => none
    | some q4 =>
    (F_Wires_lay N S1 q4 q2 p1).bind fun S5 =>
    (oR S5 a 10 3).bind fun oq6 => match oq6 with
    | none => none
    | some q6 =>
    (F_Bench_servedHouses N S5 q6 p2).bind fun (v8, S7) =>
    some (v8, S7))
    else none
theorem g_BP_served {N : Nat} {S : pm_S} {a : Nat} {p0 : Int32} {p1 : Int32} {p2 : Int32} {r : (Int32 × pm_S)} (h : F_BP_served N S a p0 p1 p2 = some r) : rcv S a 10 = true := by
  unfold F_BP_served at h
  by_cases c : rcv S a 10 = true
  · exact c
  · rw [if_neg c] at h; cases h
set_option maxHeartbeats 4000000 in
set_option maxRecDepth 20000 in
theorem f_BP_served (sp : pm_I → List Value → pm_S → pm_O → Prop) (d N : Nat) (S : pm_S) (a : Nat) (p0 : Int32) (p1 : Int32) (p2 : Int32) (r : (Int32 × pm_S)) (h : F_BP_served N S a p0 p1 p2 = some r) : pm_rel pG sp (d + 7) mi_BP_served [.ref a, .int p0, .int p1, .int p2] S (some (.int r.1), r.2) := by
  have hg := g_BP_served h
  unfold F_BP_served at h
  rw [if_pos hg] at h
  refine pE_rel (d := d + 6) ?_
  show pmE pG _ mi_BP_served 0 [some (.ref a), some (.int p0), some (.int p1), some (.int p2), none] [] S _
  refine pE_jump 3 (pc' := 3) (ls' := [some (.ref a), some (.int p0), some (.int p1), some (.int p2), none]) (st' := [.int p1, .int p0, .ref a]) (fun _ => rfl) ?_
  obtain ⟨⟨oq2, S1⟩, hq2, h⟩ := obind h
  try dsimp only at h
  cases oq2 with
  | none =>
    try dsimp only at h
    refine pE_iv (Bs := [.int p0, .int p1]) (st := []) 1 rfl (Or.inl ⟨rfl, rfl⟩) rfl rfl (Nat.le_of_ble_eq_true rfl) (Nat.le_of_ble_eq_true rfl) (g_BP_planWith hq2) (f_BP_planWith sp (d + 2) N S a p0 p1 _ hq2) ?_
    refine pE_jump 4 (pc' := 14) (ls' := [some (.ref a), some (.int p0), some (.int p1), some (.int p2), some (.null)]) (st' := [.int (-1)]) (fun _ => rfl) ?_
    cases h
    exact pE_ret rfl rfl rfl
  | some q2 =>
    try dsimp only at h
    refine pE_iv (Bs := [.int p0, .int p1]) (st := []) 1 rfl (Or.inl ⟨rfl, rfl⟩) rfl rfl (Nat.le_of_ble_eq_true rfl) (Nat.le_of_ble_eq_true rfl) (g_BP_planWith hq2) (f_BP_planWith sp (d + 2) N S a p0 p1 _ hq2) ?_
    refine pE_jump 4 (pc' := 16) (ls' := [some (.ref a), some (.int p0), some (.int p1), some (.int p2), some (.ref q2)]) (st' := [.ref a]) (fun _ => rfl) ?_
    obtain ⟨oq3, hq3, h⟩ := obind h
    cases oq3 with
    | none => cases h
    | some q3 =>
      try dsimp only at h
      refine pE_gfS rfl rfl hq3 ?_
      obtain ⟨oq4, hq4, h⟩ := obind h
      cases oq4 with
      | none => cases h
      | some q4 =>
        try dsimp only at h
        refine pE_gfS rfl rfl hq4 ?_
        refine pE_jump 2 (pc' := 25) (ls' := [some (.ref a), some (.int p0), some (.int p1), some (.int p2), some (.ref q2)]) (st' := [.int p1, .ref q2, .ref q4]) (fun _ => rfl) ?_
        obtain ⟨S5, hS5, h⟩ := obind h
        refine pE_iv (Bs := [.ref q2, .int p1]) (st := []) 1 rfl (Or.inl ⟨rfl, rfl⟩) rfl rfl (Nat.le_of_ble_eq_true rfl) (Nat.le_of_ble_eq_true rfl) (g_Wires_lay hS5) (f_Wires_lay sp (d + 1) N S1 q4 q2 p1 _ hS5) ?_
        refine pE_jump 1 (pc' := 29) (ls' := [some (.ref a), some (.int p0), some (.int p1), some (.int p2), some (.ref q2)]) (st' := [.ref a]) (fun _ => rfl) ?_
        obtain ⟨oq6, hq6, h⟩ := obind h
        cases oq6 with
        | none => cases h
        | some q6 =>
          try dsimp only at h
          refine pE_gfS rfl rfl hq6 ?_
          refine pE_jump 1 (pc' := 33) (ls' := [some (.ref a), some (.int p0), some (.int p1), some (.int p2), some (.ref q2)]) (st' := [.int p2, .ref q6]) (fun _ => rfl) ?_
          obtain ⟨⟨v8, S7⟩, hv8, h⟩ := obind h
          try dsimp only at h
          refine pE_iv (Bs := [.int p2]) (st := []) 1 rfl (Or.inl ⟨rfl, rfl⟩) rfl rfl (Nat.le_of_ble_eq_true rfl) (Nat.le_of_ble_eq_true rfl) (g_Bench_servedHouses hv8) (f_Bench_servedHouses sp d N S5 q6 p2 _ hv8) ?_
          cases h
          exact pE_ret rfl rfl rfl
def F_Tone_comesToHome_29 (N : Nat)  (t0 : Int32) (S : pm_S) : Option (Int32 × pm_S) :=
    if t0 = 0 ∨ t0 = 1 then some (t0, S) else none
set_option maxHeartbeats 4000000 in
set_option maxRecDepth 20000 in
theorem f_Tone_comesToHome_29 (sp : pm_I → List Value → pm_S → pm_O → Prop) (d N : Nat)  (t0 : Int32) (S : pm_S)  (r : (Int32 × pm_S)) (h : F_Tone_comesToHome_29 N  t0 S = some r) : pmE pG (pm_rel pG sp (d + 2)) mi_Tone_comesToHome 29 [none, none] [.int t0] S (some (.int r.1), r.2) := by
  unfold F_Tone_comesToHome_29 at h
  by_cases c1 : t0 = 0 ∨ t0 = 1
  · rw [if_pos c1] at h
    cases h
    exact pE_ret rfl (if_pos c1) rfl
  · rw [if_neg c1] at h
    cases h
def F_Tone_comesToHome_28 (N : Nat)   (S : pm_S) : Option (Int32 × pm_S) :=
    F_Tone_comesToHome_29 N 0 S
set_option maxHeartbeats 4000000 in
set_option maxRecDepth 20000 in
theorem f_Tone_comesToHome_28 (sp : pm_I → List Value → pm_S → pm_O → Prop) (d N : Nat)   (S : pm_S)  (r : (Int32 × pm_S)) (h : F_Tone_comesToHome_28 N   S = some r) : pmE pG (pm_rel pG sp (d + 2)) mi_Tone_comesToHome 28 [none, none] [] S (some (.int r.1), r.2) := by
  unfold F_Tone_comesToHome_28 at h
  refine pE_jump 1 (pc' := 29) (ls' := [none, none]) (st' := [.int 0]) (fun _ => rfl) ?_
  exact f_Tone_comesToHome_29 sp d N 0 S _ h
def F_Tone_comesToHome (N : Nat) (S : pm_S) (a : Nat) (p0 : Int32) : Option (Int32 × pm_S) :=
    if rcv S a 8 = true then
    (if p0 = (-1) then
    F_Tone_comesToHome_28 N S
    else
    ((F_BP_cableOf N S p0).bind fun (v3, S2) =>
    (F_Tone_comesTo N S2 a v3 1).bind fun (v5, S4) =>
    (F_BP_pairOf N S4 p0).bind fun (v7, S6) =>
    if ((v5 >>> (v7 &&& 31)) &&& 1) = 0 then
    F_Tone_comesToHome_28 N S6
    else
    F_Tone_comesToHome_29 N 1 S6))
    else none
theorem g_Tone_comesToHome {N : Nat} {S : pm_S} {a : Nat} {p0 : Int32} {r : (Int32 × pm_S)} (h : F_Tone_comesToHome N S a p0 = some r) : rcv S a 8 = true := by
  unfold F_Tone_comesToHome at h
  by_cases c : rcv S a 8 = true
  · exact c
  · rw [if_neg c] at h; cases h
set_option maxHeartbeats 4000000 in
set_option maxRecDepth 20000 in
theorem f_Tone_comesToHome (sp : pm_I → List Value → pm_S → pm_O → Prop) (d N : Nat) (S : pm_S) (a : Nat) (p0 : Int32) (r : (Int32 × pm_S)) (h : F_Tone_comesToHome N S a p0 = some r) : pm_rel pG sp (d + 3) mi_Tone_comesToHome [.ref a, .int p0] S (some (.int r.1), r.2) := by
  have hg := g_Tone_comesToHome h
  unfold F_Tone_comesToHome at h
  rw [if_pos hg] at h
  refine pE_rel (d := d + 2) ?_
  show pmE pG _ mi_Tone_comesToHome 0 [some (.ref a), some (.int p0)] [] S _
  refine pE_jump 2 (pc' := 2) (ls' := [some (.ref a), some (.int p0)]) (st' := [.int (-1), .int p0]) (fun _ => rfl) ?_
  refine pE_br (p0 = (-1)) rfl rfl (fun c9 => ?_) (fun c9 => ?_)
  · rw [if_pos c9] at h
    refine pE_weak [none, none] trivial ?_
    exact f_Tone_comesToHome_28 sp d N S _ h
  · rw [if_neg c9] at h
    refine pE_jump 2 (pc' := 7) (ls' := [some (.ref a), some (.int p0)]) (st' := [.int p0, .ref a]) (fun _ => rfl) ?_
    obtain ⟨⟨v3, S2⟩, hv3, h⟩ := obind h
    try dsimp only at h
    refine pE_is (Bs := [.int p0]) (st := [.ref a]) rfl rfl rfl (Nat.le_of_ble_eq_true rfl) (Nat.le_of_ble_eq_true rfl) (f_BP_cableOf sp (d + 1) N S p0 _ hv3) ?_
    refine pE_jump 1 (pc' := 11) (ls' := [some (.ref a), some (.int p0)]) (st' := [.int 1, .int v3, .ref a]) (fun _ => rfl) ?_
    obtain ⟨⟨v5, S4⟩, hv5, h⟩ := obind h
    try dsimp only at h
    refine pE_iv (Bs := [.int v3, .int 1]) (st := []) 1 rfl (Or.inl ⟨rfl, rfl⟩) rfl rfl (Nat.le_of_ble_eq_true rfl) (Nat.le_of_ble_eq_true rfl) (g_Tone_comesTo hv5) (f_Tone_comesTo sp d N S2 a v3 1 _ hv5) ?_
    refine pE_jump 1 (pc' := 15) (ls' := [some (.ref a), some (.int p0)]) (st' := [.int p0, .int v5]) (fun _ => rfl) ?_
    obtain ⟨⟨v7, S6⟩, hv7, h⟩ := obind h
    try dsimp only at h
    refine pE_is (Bs := [.int p0]) (st := [.int v5]) rfl rfl rfl (Nat.le_of_ble_eq_true rfl) (Nat.le_of_ble_eq_true rfl) (f_BP_pairOf sp (d + 1) N S4 p0 _ hv7) ?_
    refine pE_jump 3 (pc' := 21) (ls' := [some (.ref a), some (.int p0)]) (st' := [.int ((v5 >>> (v7 &&& 31)) &&& 1)]) (fun _ => rfl) ?_
    refine pE_br (((v5 >>> (v7 &&& 31)) &&& 1) = 0) rfl rfl (fun c8 => ?_) (fun c8 => ?_)
    · rw [if_pos c8] at h
      refine pE_weak [none, none] trivial ?_
      exact f_Tone_comesToHome_28 sp d N S6 _ h
    · rw [if_neg c8] at h
      refine pE_jump 2 (pc' := 29) (ls' := [some (.ref a), some (.int p0)]) (st' := [.int 1]) (fun _ => rfl) ?_
      refine pE_weak [none, none] trivial ?_
      exact f_Tone_comesToHome_29 sp d N 1 S6 _ h
def F_Bench_housesHearing_83 (N : Nat)  (x4 : Int32) (S : pm_S) : Option (Int32 × pm_S) :=
    some (x4, S)
set_option maxHeartbeats 4000000 in
set_option maxRecDepth 20000 in
theorem f_Bench_housesHearing_83 (sp : pm_I → List Value → pm_S → pm_O → Prop) (d N : Nat)  (x4 : Int32) (S : pm_S)  (r : (Int32 × pm_S)) (h : F_Bench_housesHearing_83 N  x4 S = some r) : pmE pG (pm_rel pG sp (d + 4)) mi_Bench_housesHearing 83 [none, none, none, none, some (.int x4), none] [] S (some (.int r.1), r.2) := by
  unfold F_Bench_housesHearing_83 at h
  refine pE_jump 1 (pc' := 85) (ls' := [none, none, none, none, some (.int x4), none]) (st' := [.int x4]) (fun _ => rfl) ?_
  cases h
  exact pE_ret rfl rfl rfl
def F_Bench_housesHearing_77 (N : Nat) (rec36 : Int32 → Int32 → pm_S → Option (Int32 × pm_S)) (x0 : Nat) (x1 : Int32) (x4 : Int32) (x5 : Int32) (S : pm_S) : Option (Int32 × pm_S) :=
    rec36 x4 (x5 + 1) S
set_option maxHeartbeats 4000000 in
set_option maxRecDepth 20000 in
theorem f_Bench_housesHearing_77 (sp : pm_I → List Value → pm_S → pm_O → Prop) (d N : Nat) (rec36 : Int32 → Int32 → pm_S → Option (Int32 × pm_S)) (x0 : Nat) (x1 : Int32) (x4 : Int32) (x5 : Int32) (S : pm_S) (hrec36 : ∀ (y1 : Int32) (y2 : Int32) (U : pm_S) (r : (Int32 × pm_S)), rec36 y1 y2 U = some r → pmE pG (pm_rel pG sp (d + 4)) mi_Bench_housesHearing 36 [some (.ref x0), some (.int x1), none, none, some (.int y1), some (.int y2)] [] U (some (.int r.1), r.2)) (r : (Int32 × pm_S)) (h : F_Bench_housesHearing_77 N rec36 x0 x1 x4 x5 S = some r) : pmE pG (pm_rel pG sp (d + 4)) mi_Bench_housesHearing 77 [some (.ref x0), some (.int x1), none, none, some (.int x4), some (.int x5)] [] S (some (.int r.1), r.2) := by
  unfold F_Bench_housesHearing_77 at h
  refine pE_jump 2 (pc' := 36) (ls' := [some (.ref x0), some (.int x1), none, none, some (.int x4), some (.int (x5 + 1))]) (st' := []) (fun _ => rfl) ?_
  exact hrec36 x4 (x5 + 1) S _ h
def B_Bench_housesHearing_36 (N : Nat)  (rec36 : Int32 → Int32 → pm_S → Option (Int32 × pm_S)) (x0 : Nat) (x1 : Int32) (x4 : Int32) (x5 : Int32) (S : pm_S) : Option (Int32 × pm_S) :=
    if 10 ≤ x5 then
    F_Bench_housesHearing_83 N x4 S
    else
    (if x5 = x1 then
    F_Bench_housesHearing_77 N rec36 x0 x1 x4 x5 S
    else
    ((oR S x0 0 1).bind fun oq8 => match oq8 with
    | none => none
    | some q8 =>
    (oR S x0 0 0).bind fun oq12 => match oq12 with
    | none => none
    | some q12 =>
    (F_Wires_homeOf N S q12 x5).bind fun (v14, S13) =>
    (F_Tone_comesToHome N S13 q8 v14).bind fun (v16, S15) =>
    if v16 = 0 then
    F_Bench_housesHearing_77 N rec36 x0 x1 x4 x5 S15
    else
    F_Bench_housesHearing_77 N rec36 x0 x1 (x4 ||| (1 <<< (x5 &&& 31))) x5 S15))
def F_Bench_housesHearing_36 (N : Nat)  (x0 : Nat) (x1 : Int32) : Nat → Int32 → Int32 → pm_S → Option (Int32 × pm_S)
  | 0 => fun _ _ _ => none
  | n + 1 => fun x4 x5 S => B_Bench_housesHearing_36 N  (F_Bench_housesHearing_36 N  x0 x1 n) x0 x1 x4 x5 S
set_option maxHeartbeats 4000000 in
set_option maxRecDepth 20000 in
theorem f_Bench_housesHearing_36 (sp : pm_I → List Value → pm_S → pm_O → Prop) (d N : Nat)  (x0 : Nat) (x1 : Int32)  : ∀ (n : Nat) (x4 : Int32) (x5 : Int32) (S : pm_S) (r : (Int32 × pm_S)), F_Bench_housesHearing_36 N  x0 x1 n x4 x5 S = some r → pmE pG (pm_rel pG sp (d + 4)) mi_Bench_housesHearing 36 [some (.ref x0), some (.int x1), none, none, some (.int x4), some (.int x5)] [] S (some (.int r.1), r.2) := by
  intro n
  induction n with
  | zero =>
    intro x4 x5 S r h
    cases h
  | succ n ih =>
    intro x4 x5 S r h
    replace h : B_Bench_housesHearing_36 N  (F_Bench_housesHearing_36 N  x0 x1 n) x0 x1 x4 x5 S = some r := h
    have hrec36 := ih
    generalize F_Bench_housesHearing_36 N  x0 x1 n = rec36 at h hrec36
    unfold B_Bench_housesHearing_36 at h
    refine pE_jump 2 (pc' := 40) (ls' := [some (.ref x0), some (.int x1), none, none, some (.int x4), some (.int x5)]) (st' := [.int 10, .int x5]) (fun _ => rfl) ?_
    refine pE_br (10 ≤ x5) rfl rfl (fun c19 => ?_) (fun c19 => ?_)
    · rw [if_pos c19] at h
      refine pE_weak [none, none, none, none, some (.int x4), none] ⟨rfl, trivial⟩ ?_
      exact f_Bench_housesHearing_83 sp d N x4 S _ h
    · rw [if_neg c19] at h
      refine pE_jump 2 (pc' := 46) (ls' := [some (.ref x0), some (.int x1), none, none, some (.int x4), some (.int x5)]) (st' := [.int x1, .int x5]) (fun _ => rfl) ?_
      refine pE_br (x5 = x1) rfl rfl (fun c18 => ?_) (fun c18 => ?_)
      · rw [if_pos c18] at h
        exact f_Bench_housesHearing_77 sp d N rec36 x0 x1 x4 x5 S hrec36 _ h
      · rw [if_neg c18] at h
        refine pE_jump 1 (pc' := 50) (ls' := [some (.ref x0), some (.int x1), none, none, some (.int x4), some (.int x5)]) (st' := [.ref x0]) (fun _ => rfl) ?_
        obtain ⟨oq8, hq8, h⟩ := obind h
        cases oq8 with
        | none => cases h
        | some q8 =>
          try dsimp only at h
          refine pE_gfS rfl rfl hq8 ?_
          refine pE_jump 1 (pc' := 54) (ls' := [some (.ref x0), some (.int x1), none, none, some (.int x4), some (.int x5)]) (st' := [.ref x0, .ref q8]) (fun _ => rfl) ?_
          obtain ⟨oq12, hq12, h⟩ := obind h
          cases oq12 with
          | none => cases h
          | some q12 =>
            try dsimp only at h
            refine pE_gfS rfl rfl hq12 ?_
            refine pE_jump 1 (pc' := 59) (ls' := [some (.ref x0), some (.int x1), none, none, some (.int x4), some (.int x5)]) (st' := [.int x5, .ref q12, .ref q8]) (fun _ => rfl) ?_
            obtain ⟨⟨v14, S13⟩, hv14, h⟩ := obind h
            try dsimp only at h
            refine pE_iv (Bs := [.int x5]) (st := [.ref q8]) 1 rfl (Or.inl ⟨rfl, rfl⟩) rfl rfl (Nat.le_of_ble_eq_true rfl) (Nat.le_of_ble_eq_true rfl) (g_Wires_homeOf hv14) (f_Wires_homeOf sp (d + 2) N S q12 x5 _ hv14) ?_
            obtain ⟨⟨v16, S15⟩, hv16, h⟩ := obind h
            try dsimp only at h
            refine pE_iv (Bs := [.int v14]) (st := []) 1 rfl (Or.inl ⟨rfl, rfl⟩) rfl rfl (Nat.le_of_ble_eq_true rfl) (Nat.le_of_ble_eq_true rfl) (g_Tone_comesToHome hv16) (f_Tone_comesToHome sp (d + 1) N S13 q8 v14 _ hv16) ?_
            refine pE_br (v16 = 0) rfl rfl (fun c17 => ?_) (fun c17 => ?_)
            · rw [if_pos c17] at h
              exact f_Bench_housesHearing_77 sp d N rec36 x0 x1 x4 x5 S15 hrec36 _ h
            · rw [if_neg c17] at h
              refine pE_jump 6 (pc' := 77) (ls' := [some (.ref x0), some (.int x1), none, none, some (.int (x4 ||| (1 <<< (x5 &&& 31)))), some (.int x5)]) (st' := []) (fun _ => rfl) ?_
              exact f_Bench_housesHearing_77 sp d N rec36 x0 x1 (x4 ||| (1 <<< (x5 &&& 31))) x5 S15 hrec36 _ h
def F_Bench_housesHearing (N : Nat) (S : pm_S) (a : Nat) (p0 : Int32) (p1 : Int32) : Option (Int32 × pm_S) :=
    if rcv S a 0 = true then
    ((oR S a 0 0).bind fun oq1 => match oq1 with
    | none => none
    | some q1 =>
    (F_Wires_homeOf N S q1 p0).bind fun (v3, S2) =>
    if v3 = (-1) then
    some ((-1), S2)
    else
    ((oR S2 a 0 1).bind fun oq4 => match oq4 with
    | none => none
    | some q4 =>
    (oR S2 a 0 0).bind fun oq6 => match oq6 with
    | none => none
    | some q6 =>
    (F_Tone_send N S2 q4 q6 p1 v3 1).bind fun S7 =>
    F_Bench_housesHearing_36 N a p0 N 0 0 S7))
    else none
theorem g_Bench_housesHearing {N : Nat} {S : pm_S} {a : Nat} {p0 : Int32} {p1 : Int32} {r : (Int32 × pm_S)} (h : F_Bench_housesHearing N S a p0 p1 = some r) : rcv S a 0 = true := by
  unfold F_Bench_housesHearing at h
  by_cases c : rcv S a 0 = true
  · exact c
  · rw [if_neg c] at h; cases h
set_option maxHeartbeats 4000000 in
set_option maxRecDepth 20000 in
theorem f_Bench_housesHearing (sp : pm_I → List Value → pm_S → pm_O → Prop) (d N : Nat) (S : pm_S) (a : Nat) (p0 : Int32) (p1 : Int32) (r : (Int32 × pm_S)) (h : F_Bench_housesHearing N S a p0 p1 = some r) : pm_rel pG sp (d + 5) mi_Bench_housesHearing [.ref a, .int p0, .int p1] S (some (.int r.1), r.2) := by
  have hg := g_Bench_housesHearing h
  unfold F_Bench_housesHearing at h
  rw [if_pos hg] at h
  refine pE_rel (d := d + 4) ?_
  show pmE pG _ mi_Bench_housesHearing 0 [some (.ref a), some (.int p0), some (.int p1), none, none, none] [] S _
  refine pE_jump 1 (pc' := 1) (ls' := [some (.ref a), some (.int p0), some (.int p1), none, none, none]) (st' := [.ref a]) (fun _ => rfl) ?_
  obtain ⟨oq1, hq1, h⟩ := obind h
  cases oq1 with
  | none => cases h
  | some q1 =>
    try dsimp only at h
    refine pE_gfS rfl rfl hq1 ?_
    refine pE_jump 1 (pc' := 5) (ls' := [some (.ref a), some (.int p0), some (.int p1), none, none, none]) (st' := [.int p0, .ref q1]) (fun _ => rfl) ?_
    obtain ⟨⟨v3, S2⟩, hv3, h⟩ := obind h
    try dsimp only at h
    refine pE_iv (Bs := [.int p0]) (st := []) 1 rfl (Or.inl ⟨rfl, rfl⟩) rfl rfl (Nat.le_of_ble_eq_true rfl) (Nat.le_of_ble_eq_true rfl) (g_Wires_homeOf hv3) (f_Wires_homeOf sp (d + 2) N S q1 p0 _ hv3) ?_
    refine pE_jump 3 (pc' := 11) (ls' := [some (.ref a), some (.int p0), some (.int p1), some (.int v3), none, none]) (st' := [.int (-1), .int v3]) (fun _ => rfl) ?_
    refine pE_br (¬ v3 = (-1)) rfl rfl (fun c20 => ?_) (fun c20 => ?_)
    · rw [if_neg c20] at h
      refine pE_jump 1 (pc' := 17) (ls' := [some (.ref a), some (.int p0), some (.int p1), some (.int v3), none, none]) (st' := [.ref a]) (fun _ => rfl) ?_
      obtain ⟨oq4, hq4, h⟩ := obind h
      cases oq4 with
      | none => cases h
      | some q4 =>
        try dsimp only at h
        refine pE_gfS rfl rfl hq4 ?_
        refine pE_jump 1 (pc' := 21) (ls' := [some (.ref a), some (.int p0), some (.int p1), some (.int v3), none, none]) (st' := [.ref a, .ref q4]) (fun _ => rfl) ?_
        obtain ⟨oq6, hq6, h⟩ := obind h
        cases oq6 with
        | none => cases h
        | some q6 =>
          try dsimp only at h
          refine pE_gfS rfl rfl hq6 ?_
          refine pE_jump 3 (pc' := 27) (ls' := [some (.ref a), some (.int p0), some (.int p1), some (.int v3), none, none]) (st' := [.int 1, .int v3, .int p1, .ref q6, .ref q4]) (fun _ => rfl) ?_
          obtain ⟨S7, hS7, h⟩ := obind h
          refine pE_iv (Bs := [.ref q6, .int p1, .int v3, .int 1]) (st := []) 1 rfl (Or.inl ⟨rfl, rfl⟩) rfl rfl (Nat.le_of_ble_eq_true rfl) (Nat.le_of_ble_eq_true rfl) (g_Tone_send hS7) (f_Tone_send sp d N S2 q4 q6 p1 v3 1 _ hS7) ?_
          refine pE_jump 4 (pc' := 36) (ls' := [some (.ref a), some (.int p0), some (.int p1), some (.int v3), some (.int 0), some (.int 0)]) (st' := []) (fun _ => rfl) ?_
          refine pE_weak [some (.ref a), some (.int p0), none, none, some (.int 0), some (.int 0)] ⟨rfl, ⟨rfl, ⟨rfl, ⟨rfl, trivial⟩⟩⟩⟩ ?_
          exact f_Bench_housesHearing_36 sp d N a p0 N 0 0 S7 _ h
    · have c20 := Decidable.not_not.mp c20
      rw [if_pos c20] at h
      refine pE_jump 1 (pc' := 15) (ls' := [some (.ref a), some (.int p0), some (.int p1), some (.int v3), none, none]) (st' := [.int (-1)]) (fun _ => rfl) ?_
      cases h
      exact pE_ret rfl rfl rfl
def F_BP_neighbours (N : Nat) (S : pm_S) (a : Nat) (p0 : Int32) (p1 : Int32) (p2 : Int32) (p3 : Int32) : Option (Int32 × pm_S) :=
    if rcv S a 10 = true then
    ((F_BP_planWith N S a p0 p1).bind fun (oq2, S1) => match oq2 with
    | none => some ((-1), S1)
    | some q2 =>
    (oR S1 a 10 3).bind fun oq3 => match oq3 with
    | none => none
    | some q3 =>
    (oR S1 q3 0 0).bind fun oq4 => match oq4 with
    | none => none
    | some q4 =>
    (F_Wires_lay N S1 q4 q2 p1).bind fun S5 =>
    (oR S5 a 10 3).bind fun oq6 => match oq6 with
    | none => none
    | some q6 =>
    (F_Bench_housesHearing N S5 q6 p3 p2).bind fun (v8, S7) =>
    some (v8, S7))
    else none
theorem g_BP_neighbours {N : Nat} {S : pm_S} {a : Nat} {p0 : Int32} {p1 : Int32} {p2 : Int32} {p3 : Int32} {r : (Int32 × pm_S)} (h : F_BP_neighbours N S a p0 p1 p2 p3 = some r) : rcv S a 10 = true := by
  unfold F_BP_neighbours at h
  by_cases c : rcv S a 10 = true
  · exact c
  · rw [if_neg c] at h; cases h
set_option maxHeartbeats 4000000 in
set_option maxRecDepth 20000 in
theorem f_BP_neighbours (sp : pm_I → List Value → pm_S → pm_O → Prop) (d N : Nat) (S : pm_S) (a : Nat) (p0 : Int32) (p1 : Int32) (p2 : Int32) (p3 : Int32) (r : (Int32 × pm_S)) (h : F_BP_neighbours N S a p0 p1 p2 p3 = some r) : pm_rel pG sp (d + 6) mi_BP_neighbours [.ref a, .int p0, .int p1, .int p2, .int p3] S (some (.int r.1), r.2) := by
  have hg := g_BP_neighbours h
  unfold F_BP_neighbours at h
  rw [if_pos hg] at h
  refine pE_rel (d := d + 5) ?_
  show pmE pG _ mi_BP_neighbours 0 [some (.ref a), some (.int p0), some (.int p1), some (.int p2), some (.int p3), none] [] S _
  refine pE_jump 3 (pc' := 3) (ls' := [some (.ref a), some (.int p0), some (.int p1), some (.int p2), some (.int p3), none]) (st' := [.int p1, .int p0, .ref a]) (fun _ => rfl) ?_
  obtain ⟨⟨oq2, S1⟩, hq2, h⟩ := obind h
  try dsimp only at h
  cases oq2 with
  | none =>
    try dsimp only at h
    refine pE_iv (Bs := [.int p0, .int p1]) (st := []) 1 rfl (Or.inl ⟨rfl, rfl⟩) rfl rfl (Nat.le_of_ble_eq_true rfl) (Nat.le_of_ble_eq_true rfl) (g_BP_planWith hq2) (f_BP_planWith sp (d + 1) N S a p0 p1 _ hq2) ?_
    refine pE_jump 4 (pc' := 14) (ls' := [some (.ref a), some (.int p0), some (.int p1), some (.int p2), some (.int p3), some (.null)]) (st' := [.int (-1)]) (fun _ => rfl) ?_
    cases h
    exact pE_ret rfl rfl rfl
  | some q2 =>
    try dsimp only at h
    refine pE_iv (Bs := [.int p0, .int p1]) (st := []) 1 rfl (Or.inl ⟨rfl, rfl⟩) rfl rfl (Nat.le_of_ble_eq_true rfl) (Nat.le_of_ble_eq_true rfl) (g_BP_planWith hq2) (f_BP_planWith sp (d + 1) N S a p0 p1 _ hq2) ?_
    refine pE_jump 4 (pc' := 16) (ls' := [some (.ref a), some (.int p0), some (.int p1), some (.int p2), some (.int p3), some (.ref q2)]) (st' := [.ref a]) (fun _ => rfl) ?_
    obtain ⟨oq3, hq3, h⟩ := obind h
    cases oq3 with
    | none => cases h
    | some q3 =>
      try dsimp only at h
      refine pE_gfS rfl rfl hq3 ?_
      obtain ⟨oq4, hq4, h⟩ := obind h
      cases oq4 with
      | none => cases h
      | some q4 =>
        try dsimp only at h
        refine pE_gfS rfl rfl hq4 ?_
        refine pE_jump 2 (pc' := 25) (ls' := [some (.ref a), some (.int p0), some (.int p1), some (.int p2), some (.int p3), some (.ref q2)]) (st' := [.int p1, .ref q2, .ref q4]) (fun _ => rfl) ?_
        obtain ⟨S5, hS5, h⟩ := obind h
        refine pE_iv (Bs := [.ref q2, .int p1]) (st := []) 1 rfl (Or.inl ⟨rfl, rfl⟩) rfl rfl (Nat.le_of_ble_eq_true rfl) (Nat.le_of_ble_eq_true rfl) (g_Wires_lay hS5) (f_Wires_lay sp d N S1 q4 q2 p1 _ hS5) ?_
        refine pE_jump 1 (pc' := 29) (ls' := [some (.ref a), some (.int p0), some (.int p1), some (.int p2), some (.int p3), some (.ref q2)]) (st' := [.ref a]) (fun _ => rfl) ?_
        obtain ⟨oq6, hq6, h⟩ := obind h
        cases oq6 with
        | none => cases h
        | some q6 =>
          try dsimp only at h
          refine pE_gfS rfl rfl hq6 ?_
          refine pE_jump 2 (pc' := 35) (ls' := [some (.ref a), some (.int p0), some (.int p1), some (.int p2), some (.int p3), some (.ref q2)]) (st' := [.int p2, .int p3, .ref q6]) (fun _ => rfl) ?_
          obtain ⟨⟨v8, S7⟩, hv8, h⟩ := obind h
          try dsimp only at h
          refine pE_iv (Bs := [.int p3, .int p2]) (st := []) 1 rfl (Or.inl ⟨rfl, rfl⟩) rfl rfl (Nat.le_of_ble_eq_true rfl) (Nat.le_of_ble_eq_true rfl) (g_Bench_housesHearing hv8) (f_Bench_housesHearing sp d N S5 q6 p3 p2 _ hv8) ?_
          cases h
          exact pE_ret rfl rfl rfl
def F_Wires_pairsWith_45 (N : Nat)  (x3 : Int32) (S : pm_S) : Option (Int32 × pm_S) :=
    some (x3, S)
set_option maxHeartbeats 4000000 in
set_option maxRecDepth 20000 in
theorem f_Wires_pairsWith_45 (sp : pm_I → List Value → pm_S → pm_O → Prop) (d N : Nat)  (x3 : Int32) (S : pm_S)  (r : (Int32 × pm_S)) (h : F_Wires_pairsWith_45 N  x3 S = some r) : pmE pG (pm_rel pG sp (d + 2)) mi_Wires_pairsWith 45 [none, none, none, some (.int x3), none] [] S (some (.int r.1), r.2) := by
  unfold F_Wires_pairsWith_45 at h
  refine pE_jump 1 (pc' := 46) (ls' := [none, none, none, some (.int x3), none]) (st' := [.int x3]) (fun _ => rfl) ?_
  cases h
  exact pE_ret rfl rfl rfl
def F_Wires_pairsWith_39 (N : Nat) (rec5 : Int32 → Int32 → pm_S → Option (Int32 × pm_S)) (x0 : Nat) (x1 : Nat) (x2 : Int32) (x3 : Int32) (x4 : Int32) (S : pm_S) : Option (Int32 × pm_S) :=
    rec5 x3 (x4 + 1) S
set_option maxHeartbeats 4000000 in
set_option maxRecDepth 20000 in
theorem f_Wires_pairsWith_39 (sp : pm_I → List Value → pm_S → pm_O → Prop) (d N : Nat) (rec5 : Int32 → Int32 → pm_S → Option (Int32 × pm_S)) (x0 : Nat) (x1 : Nat) (x2 : Int32) (x3 : Int32) (x4 : Int32) (S : pm_S) (hrec5 : ∀ (y1 : Int32) (y2 : Int32) (U : pm_S) (r : (Int32 × pm_S)), rec5 y1 y2 U = some r → pmE pG (pm_rel pG sp (d + 2)) mi_Wires_pairsWith 5 [some (.ref x0), some (.ref x1), some (.int x2), some (.int y1), some (.int y2)] [] U (some (.int r.1), r.2)) (r : (Int32 × pm_S)) (h : F_Wires_pairsWith_39 N rec5 x0 x1 x2 x3 x4 S = some r) : pmE pG (pm_rel pG sp (d + 2)) mi_Wires_pairsWith 39 [some (.ref x0), some (.ref x1), some (.int x2), some (.int x3), some (.int x4)] [] S (some (.int r.1), r.2) := by
  unfold F_Wires_pairsWith_39 at h
  refine pE_jump 2 (pc' := 5) (ls' := [some (.ref x0), some (.ref x1), some (.int x2), some (.int x3), some (.int (x4 + 1))]) (st' := []) (fun _ => rfl) ?_
  exact hrec5 x3 (x4 + 1) S _ h
def B_Wires_pairsWith_5 (N : Nat)  (rec5 : Int32 → Int32 → pm_S → Option (Int32 × pm_S)) (x0 : Nat) (x1 : Nat) (x2 : Int32) (x3 : Int32) (x4 : Int32) (S : pm_S) : Option (Int32 × pm_S) :=
    (oR S x0 9 9).bind fun oq1 => match oq1 with
    | none => none
    | some q1 =>
    (F_Plan_pairsOf N S q1 x2).bind fun (v3, S2) =>
    if v3 ≤ x4 then
    F_Wires_pairsWith_45 N x3 S2
    else
    ((F_BP_siteOf N S2 x2 x4).bind fun (v5, S4) =>
    (F_BP_valueAt N S4 x1 v5).bind fun (v7, S6) =>
    if v7 = (-1) then
    F_Wires_pairsWith_39 N rec5 x0 x1 x2 x3 x4 S6
    else
    F_Wires_pairsWith_39 N rec5 x0 x1 x2 (x3 ||| (1 <<< (x4 &&& 31))) x4 S6)
def F_Wires_pairsWith_5 (N : Nat)  (x0 : Nat) (x1 : Nat) (x2 : Int32) : Nat → Int32 → Int32 → pm_S → Option (Int32 × pm_S)
  | 0 => fun _ _ _ => none
  | n + 1 => fun x3 x4 S => B_Wires_pairsWith_5 N  (F_Wires_pairsWith_5 N  x0 x1 x2 n) x0 x1 x2 x3 x4 S
set_option maxHeartbeats 4000000 in
set_option maxRecDepth 20000 in
theorem f_Wires_pairsWith_5 (sp : pm_I → List Value → pm_S → pm_O → Prop) (d N : Nat)  (x0 : Nat) (x1 : Nat) (x2 : Int32)  : ∀ (n : Nat) (x3 : Int32) (x4 : Int32) (S : pm_S) (r : (Int32 × pm_S)), F_Wires_pairsWith_5 N  x0 x1 x2 n x3 x4 S = some r → pmE pG (pm_rel pG sp (d + 2)) mi_Wires_pairsWith 5 [some (.ref x0), some (.ref x1), some (.int x2), some (.int x3), some (.int x4)] [] S (some (.int r.1), r.2) := by
  intro n
  induction n with
  | zero =>
    intro x3 x4 S r h
    cases h
  | succ n ih =>
    intro x3 x4 S r h
    replace h : B_Wires_pairsWith_5 N  (F_Wires_pairsWith_5 N  x0 x1 x2 n) x0 x1 x2 x3 x4 S = some r := h
    have hrec5 := ih
    generalize F_Wires_pairsWith_5 N  x0 x1 x2 n = rec5 at h hrec5
    unfold B_Wires_pairsWith_5 at h
    refine pE_jump 2 (pc' := 8) (ls' := [some (.ref x0), some (.ref x1), some (.int x2), some (.int x3), some (.int x4)]) (st' := [.ref x0, .int x4]) (fun _ => rfl) ?_
    obtain ⟨oq1, hq1, h⟩ := obind h
    cases oq1 with
    | none => cases h
    | some q1 =>
      try dsimp only at h
      refine pE_gfS rfl rfl hq1 ?_
      refine pE_jump 1 (pc' := 12) (ls' := [some (.ref x0), some (.ref x1), some (.int x2), some (.int x3), some (.int x4)]) (st' := [.int x2, .ref q1, .int x4]) (fun _ => rfl) ?_
      obtain ⟨⟨v3, S2⟩, hv3, h⟩ := obind h
      try dsimp only at h
      refine pE_iv (Bs := [.int x2]) (st := [.int x4]) 1 rfl (Or.inl ⟨rfl, rfl⟩) rfl rfl (Nat.le_of_ble_eq_true rfl) (Nat.le_of_ble_eq_true rfl) (g_Plan_pairsOf hv3) (f_Plan_pairsOf sp d N S q1 x2 _ hv3) ?_
      refine pE_br (v3 ≤ x4) rfl rfl (fun c9 => ?_) (fun c9 => ?_)
      · rw [if_pos c9] at h
        refine pE_weak [none, none, none, some (.int x3), none] ⟨rfl, trivial⟩ ?_
        exact f_Wires_pairsWith_45 sp d N x3 S2 _ h
      · rw [if_neg c9] at h
        refine pE_jump 3 (pc' := 22) (ls' := [some (.ref x0), some (.ref x1), some (.int x2), some (.int x3), some (.int x4)]) (st' := [.int x4, .int x2, .ref x1]) (fun _ => rfl) ?_
        obtain ⟨⟨v5, S4⟩, hv5, h⟩ := obind h
        try dsimp only at h
        refine pE_is (Bs := [.int x2, .int x4]) (st := [.ref x1]) rfl rfl rfl (Nat.le_of_ble_eq_true rfl) (Nat.le_of_ble_eq_true rfl) (f_BP_siteOf sp (d + 1) N S2 x2 x4 _ hv5) ?_
        obtain ⟨⟨v7, S6⟩, hv7, h⟩ := obind h
        try dsimp only at h
        refine pE_is (Bs := [.ref x1, .int v5]) (st := []) rfl rfl rfl (Nat.le_of_ble_eq_true rfl) (Nat.le_of_ble_eq_true rfl) (f_BP_valueAt sp (d + 1) N S4 x1 v5 _ hv7) ?_
        refine pE_jump 1 (pc' := 29) (ls' := [some (.ref x0), some (.ref x1), some (.int x2), some (.int x3), some (.int x4)]) (st' := [.int (-1), .int v7]) (fun _ => rfl) ?_
        refine pE_br (v7 = (-1)) rfl rfl (fun c8 => ?_) (fun c8 => ?_)
        · rw [if_pos c8] at h
          exact f_Wires_pairsWith_39 sp d N rec5 x0 x1 x2 x3 x4 S6 hrec5 _ h
        · rw [if_neg c8] at h
          refine pE_jump 6 (pc' := 39) (ls' := [some (.ref x0), some (.ref x1), some (.int x2), some (.int (x3 ||| (1 <<< (x4 &&& 31)))), some (.int x4)]) (st' := []) (fun _ => rfl) ?_
          exact f_Wires_pairsWith_39 sp d N rec5 x0 x1 x2 (x3 ||| (1 <<< (x4 &&& 31))) x4 S6 hrec5 _ h
def F_Wires_pairsWith (N : Nat) (S : pm_S) (a : Nat) (p0 : Nat) (p1 : Int32) : Option (Int32 × pm_S) :=
    if rcv S a 9 = true then
    (F_Wires_pairsWith_5 N a p0 p1 N 0 0 S)
    else none
theorem g_Wires_pairsWith {N : Nat} {S : pm_S} {a : Nat} {p0 : Nat} {p1 : Int32} {r : (Int32 × pm_S)} (h : F_Wires_pairsWith N S a p0 p1 = some r) : rcv S a 9 = true := by
  unfold F_Wires_pairsWith at h
  by_cases c : rcv S a 9 = true
  · exact c
  · rw [if_neg c] at h; cases h
set_option maxHeartbeats 4000000 in
set_option maxRecDepth 20000 in
theorem f_Wires_pairsWith (sp : pm_I → List Value → pm_S → pm_O → Prop) (d N : Nat) (S : pm_S) (a : Nat) (p0 : Nat) (p1 : Int32) (r : (Int32 × pm_S)) (h : F_Wires_pairsWith N S a p0 p1 = some r) : pm_rel pG sp (d + 3) mi_Wires_pairsWith [.ref a, .ref p0, .int p1] S (some (.int r.1), r.2) := by
  have hg := g_Wires_pairsWith h
  unfold F_Wires_pairsWith at h
  rw [if_pos hg] at h
  refine pE_rel (d := d + 2) ?_
  show pmE pG _ mi_Wires_pairsWith 0 [some (.ref a), some (.ref p0), some (.int p1), none, none] [] S _
  refine pE_jump 4 (pc' := 5) (ls' := [some (.ref a), some (.ref p0), some (.int p1), some (.int 0), some (.int 0)]) (st' := []) (fun _ => rfl) ?_
  exact f_Wires_pairsWith_5 sp d N a p0 p1 N 0 0 S _ h
def F_Wires_jointPairs (N : Nat) (S : pm_S) (a : Nat) (p0 : Int32) : Option (Int32 × pm_S) :=
    if rcv S a 9 = true then
    ((oR S a 9 10).bind fun oq1 => match oq1 with
    | none => none
    | some q1 =>
    (oR S q1 1 0).bind fun oq2 => match oq2 with
    | none => none
    | some q2 =>
    (F_Wires_pairsWith N S a q2 p0).bind fun (v4, S3) =>
    some (v4, S3))
    else none
theorem g_Wires_jointPairs {N : Nat} {S : pm_S} {a : Nat} {p0 : Int32} {r : (Int32 × pm_S)} (h : F_Wires_jointPairs N S a p0 = some r) : rcv S a 9 = true := by
  unfold F_Wires_jointPairs at h
  by_cases c : rcv S a 9 = true
  · exact c
  · rw [if_neg c] at h; cases h
set_option maxHeartbeats 4000000 in
set_option maxRecDepth 20000 in
theorem f_Wires_jointPairs (sp : pm_I → List Value → pm_S → pm_O → Prop) (d N : Nat) (S : pm_S) (a : Nat) (p0 : Int32) (r : (Int32 × pm_S)) (h : F_Wires_jointPairs N S a p0 = some r) : pm_rel pG sp (d + 4) mi_Wires_jointPairs [.ref a, .int p0] S (some (.int r.1), r.2) := by
  have hg := g_Wires_jointPairs h
  unfold F_Wires_jointPairs at h
  rw [if_pos hg] at h
  refine pE_rel (d := d + 3) ?_
  show pmE pG _ mi_Wires_jointPairs 0 [some (.ref a), some (.int p0)] [] S _
  refine pE_jump 2 (pc' := 2) (ls' := [some (.ref a), some (.int p0)]) (st' := [.ref a, .ref a]) (fun _ => rfl) ?_
  obtain ⟨oq1, hq1, h⟩ := obind h
  cases oq1 with
  | none => cases h
  | some q1 =>
    try dsimp only at h
    refine pE_gfS rfl rfl hq1 ?_
    obtain ⟨oq2, hq2, h⟩ := obind h
    cases oq2 with
    | none => cases h
    | some q2 =>
      try dsimp only at h
      refine pE_gfS rfl rfl hq2 ?_
      refine pE_jump 1 (pc' := 9) (ls' := [some (.ref a), some (.int p0)]) (st' := [.int p0, .ref q2, .ref a]) (fun _ => rfl) ?_
      obtain ⟨⟨v4, S3⟩, hv4, h⟩ := obind h
      try dsimp only at h
      refine pE_iv (Bs := [.ref q2, .int p0]) (st := []) 1 rfl (Or.inl ⟨rfl, rfl⟩) rfl rfl (Nat.le_of_ble_eq_true rfl) (Nat.le_of_ble_eq_true rfl) (g_Wires_pairsWith hv4) (f_Wires_pairsWith sp d N S a q2 p0 _ hv4) ?_
      cases h
      exact pE_ret rfl rfl rfl
def F_Bench_openPairs_46 (N : Nat)  (x0 : Nat) (x1 : Int32) (x2 : Int32) (S : pm_S) : Option (Int32 × pm_S) :=
    (oR S x0 0 0).bind fun oq5 => match oq5 with
    | none => none
    | some q5 =>
    (F_Wires_jointPairs N S q5 x1).bind fun (v7, S6) =>
    some (x2 &&& (v7 ^^^ (-1)), S6)
set_option maxHeartbeats 4000000 in
set_option maxRecDepth 20000 in
theorem f_Bench_openPairs_46 (sp : pm_I → List Value → pm_S → pm_O → Prop) (d N : Nat)  (x0 : Nat) (x1 : Int32) (x2 : Int32) (S : pm_S)  (r : (Int32 × pm_S)) (h : F_Bench_openPairs_46 N  x0 x1 x2 S = some r) : pmE pG (pm_rel pG sp (d + 5)) mi_Bench_openPairs 46 [some (.ref x0), some (.int x1), some (.int x2), none] [] S (some (.int r.1), r.2) := by
  unfold F_Bench_openPairs_46 at h
  refine pE_jump 2 (pc' := 48) (ls' := [some (.ref x0), some (.int x1), some (.int x2), none]) (st' := [.ref x0, .int x2]) (fun _ => rfl) ?_
  obtain ⟨oq5, hq5, h⟩ := obind h
  cases oq5 with
  | none => cases h
  | some q5 =>
    try dsimp only at h
    refine pE_gfS rfl rfl hq5 ?_
    refine pE_jump 1 (pc' := 52) (ls' := [some (.ref x0), some (.int x1), some (.int x2), none]) (st' := [.int x1, .ref q5, .int x2]) (fun _ => rfl) ?_
    obtain ⟨⟨v7, S6⟩, hv7, h⟩ := obind h
    try dsimp only at h
    refine pE_iv (Bs := [.int x1]) (st := [.int x2]) 1 rfl (Or.inl ⟨rfl, rfl⟩) rfl rfl (Nat.le_of_ble_eq_true rfl) (Nat.le_of_ble_eq_true rfl) (g_Wires_jointPairs hv7) (f_Wires_jointPairs sp (d + 1) N S q5 x1 _ hv7) ?_
    refine pE_jump 3 (pc' := 58) (ls' := [some (.ref x0), some (.int x1), some (.int x2), none]) (st' := [.int (x2 &&& (v7 ^^^ (-1)))]) (fun _ => rfl) ?_
    cases h
    exact pE_ret rfl rfl rfl
def F_Bench_openPairs_40 (N : Nat) (rec4 : Int32 → Int32 → pm_S → Option (Int32 × pm_S)) (x0 : Nat) (x1 : Int32) (x2 : Int32) (x3 : Int32) (S : pm_S) : Option (Int32 × pm_S) :=
    rec4 x2 (x3 + 1) S
set_option maxHeartbeats 4000000 in
set_option maxRecDepth 20000 in
theorem f_Bench_openPairs_40 (sp : pm_I → List Value → pm_S → pm_O → Prop) (d N : Nat) (rec4 : Int32 → Int32 → pm_S → Option (Int32 × pm_S)) (x0 : Nat) (x1 : Int32) (x2 : Int32) (x3 : Int32) (S : pm_S) (hrec4 : ∀ (y1 : Int32) (y2 : Int32) (U : pm_S) (r : (Int32 × pm_S)), rec4 y1 y2 U = some r → pmE pG (pm_rel pG sp (d + 5)) mi_Bench_openPairs 4 [some (.ref x0), some (.int x1), some (.int y1), some (.int y2)] [] U (some (.int r.1), r.2)) (r : (Int32 × pm_S)) (h : F_Bench_openPairs_40 N rec4 x0 x1 x2 x3 S = some r) : pmE pG (pm_rel pG sp (d + 5)) mi_Bench_openPairs 40 [some (.ref x0), some (.int x1), some (.int x2), some (.int x3)] [] S (some (.int r.1), r.2) := by
  unfold F_Bench_openPairs_40 at h
  refine pE_jump 2 (pc' := 4) (ls' := [some (.ref x0), some (.int x1), some (.int x2), some (.int (x3 + 1))]) (st' := []) (fun _ => rfl) ?_
  exact hrec4 x2 (x3 + 1) S _ h
def B_Bench_openPairs_4 (N : Nat)  (rec4 : Int32 → Int32 → pm_S → Option (Int32 × pm_S)) (x0 : Nat) (x1 : Int32) (x2 : Int32) (x3 : Int32) (S : pm_S) : Option (Int32 × pm_S) :=
    (oR S x0 0 0).bind fun oq1 => match oq1 with
    | none => none
    | some q1 =>
    (oR S q1 9 9).bind fun oq2 => match oq2 with
    | none => none
    | some q2 =>
    (F_Plan_pairsOf N S q2 x1).bind fun (v4, S3) =>
    if v4 ≤ x3 then
    F_Bench_openPairs_46 N x0 x1 x2 S3
    else
    ((F_BP_siteOf N S3 x1 x3).bind fun (v9, S8) =>
    (F_Bench_feedersOf N S8 x0 v9 0).bind fun (v11, S10) =>
    if (lg_cmp v11 0) = 0 then
    F_Bench_openPairs_40 N rec4 x0 x1 x2 x3 S10
    else
    F_Bench_openPairs_40 N rec4 x0 x1 (x2 ||| (1 <<< (x3 &&& 31))) x3 S10)
def F_Bench_openPairs_4 (N : Nat)  (x0 : Nat) (x1 : Int32) : Nat → Int32 → Int32 → pm_S → Option (Int32 × pm_S)
  | 0 => fun _ _ _ => none
  | n + 1 => fun x2 x3 S => B_Bench_openPairs_4 N  (F_Bench_openPairs_4 N  x0 x1 n) x0 x1 x2 x3 S
set_option maxHeartbeats 4000000 in
set_option maxRecDepth 20000 in
theorem f_Bench_openPairs_4 (sp : pm_I → List Value → pm_S → pm_O → Prop) (d N : Nat)  (x0 : Nat) (x1 : Int32)  : ∀ (n : Nat) (x2 : Int32) (x3 : Int32) (S : pm_S) (r : (Int32 × pm_S)), F_Bench_openPairs_4 N  x0 x1 n x2 x3 S = some r → pmE pG (pm_rel pG sp (d + 5)) mi_Bench_openPairs 4 [some (.ref x0), some (.int x1), some (.int x2), some (.int x3)] [] S (some (.int r.1), r.2) := by
  intro n
  induction n with
  | zero =>
    intro x2 x3 S r h
    cases h
  | succ n ih =>
    intro x2 x3 S r h
    replace h : B_Bench_openPairs_4 N  (F_Bench_openPairs_4 N  x0 x1 n) x0 x1 x2 x3 S = some r := h
    have hrec4 := ih
    generalize F_Bench_openPairs_4 N  x0 x1 n = rec4 at h hrec4
    unfold B_Bench_openPairs_4 at h
    refine pE_jump 2 (pc' := 6) (ls' := [some (.ref x0), some (.int x1), some (.int x2), some (.int x3)]) (st' := [.ref x0, .int x3]) (fun _ => rfl) ?_
    obtain ⟨oq1, hq1, h⟩ := obind h
    cases oq1 with
    | none => cases h
    | some q1 =>
      try dsimp only at h
      refine pE_gfS rfl rfl hq1 ?_
      obtain ⟨oq2, hq2, h⟩ := obind h
      cases oq2 with
      | none => cases h
      | some q2 =>
        try dsimp only at h
        refine pE_gfS rfl rfl hq2 ?_
        refine pE_jump 1 (pc' := 13) (ls' := [some (.ref x0), some (.int x1), some (.int x2), some (.int x3)]) (st' := [.int x1, .ref q2, .int x3]) (fun _ => rfl) ?_
        obtain ⟨⟨v4, S3⟩, hv4, h⟩ := obind h
        try dsimp only at h
        refine pE_iv (Bs := [.int x1]) (st := [.int x3]) 1 rfl (Or.inl ⟨rfl, rfl⟩) rfl rfl (Nat.le_of_ble_eq_true rfl) (Nat.le_of_ble_eq_true rfl) (g_Plan_pairsOf hv4) (f_Plan_pairsOf sp (d + 3) N S q2 x1 _ hv4) ?_
        refine pE_br (v4 ≤ x3) rfl rfl (fun c13 => ?_) (fun c13 => ?_)
        · rw [if_pos c13] at h
          refine pE_weak [some (.ref x0), some (.int x1), some (.int x2), none] ⟨rfl, ⟨rfl, ⟨rfl, trivial⟩⟩⟩ ?_
          exact f_Bench_openPairs_46 sp d N x0 x1 x2 S3 _ h
        · rw [if_neg c13] at h
          refine pE_jump 3 (pc' := 22) (ls' := [some (.ref x0), some (.int x1), some (.int x2), some (.int x3)]) (st' := [.int x3, .int x1, .ref x0]) (fun _ => rfl) ?_
          obtain ⟨⟨v9, S8⟩, hv9, h⟩ := obind h
          try dsimp only at h
          refine pE_is (Bs := [.int x1, .int x3]) (st := [.ref x0]) rfl rfl rfl (Nat.le_of_ble_eq_true rfl) (Nat.le_of_ble_eq_true rfl) (f_BP_siteOf sp (d + 4) N S3 x1 x3 _ hv9) ?_
          refine pE_jump 1 (pc' := 26) (ls' := [some (.ref x0), some (.int x1), some (.int x2), some (.int x3)]) (st' := [.int 0, .int v9, .ref x0]) (fun _ => rfl) ?_
          obtain ⟨⟨v11, S10⟩, hv11, h⟩ := obind h
          try dsimp only at h
          refine pE_iv (Bs := [.int v9, .int 0]) (st := []) 1 rfl (Or.inl ⟨rfl, rfl⟩) rfl rfl (Nat.le_of_ble_eq_true rfl) (Nat.le_of_ble_eq_true rfl) (g_Bench_feedersOf hv11) (f_Bench_feedersOf sp d N S8 x0 v9 0 _ hv11) ?_
          refine pE_jump 2 (pc' := 31) (ls' := [some (.ref x0), some (.int x1), some (.int x2), some (.int x3)]) (st' := [.int (lg_cmp v11 0)]) (fun _ => rfl) ?_
          refine pE_br ((lg_cmp v11 0) = 0) rfl rfl (fun c12 => ?_) (fun c12 => ?_)
          · rw [if_pos c12] at h
            exact f_Bench_openPairs_40 sp d N rec4 x0 x1 x2 x3 S10 hrec4 _ h
          · rw [if_neg c12] at h
            refine pE_jump 6 (pc' := 40) (ls' := [some (.ref x0), some (.int x1), some (.int (x2 ||| (1 <<< (x3 &&& 31)))), some (.int x3)]) (st' := []) (fun _ => rfl) ?_
            exact f_Bench_openPairs_40 sp d N rec4 x0 x1 (x2 ||| (1 <<< (x3 &&& 31))) x3 S10 hrec4 _ h
def F_Bench_openPairs (N : Nat) (S : pm_S) (a : Nat) (p0 : Int32) : Option (Int32 × pm_S) :=
    if rcv S a 0 = true then
    (F_Bench_openPairs_4 N a p0 N 0 0 S)
    else none
theorem g_Bench_openPairs {N : Nat} {S : pm_S} {a : Nat} {p0 : Int32} {r : (Int32 × pm_S)} (h : F_Bench_openPairs N S a p0 = some r) : rcv S a 0 = true := by
  unfold F_Bench_openPairs at h
  by_cases c : rcv S a 0 = true
  · exact c
  · rw [if_neg c] at h; cases h
set_option maxHeartbeats 4000000 in
set_option maxRecDepth 20000 in
theorem f_Bench_openPairs (sp : pm_I → List Value → pm_S → pm_O → Prop) (d N : Nat) (S : pm_S) (a : Nat) (p0 : Int32) (r : (Int32 × pm_S)) (h : F_Bench_openPairs N S a p0 = some r) : pm_rel pG sp (d + 6) mi_Bench_openPairs [.ref a, .int p0] S (some (.int r.1), r.2) := by
  have hg := g_Bench_openPairs h
  unfold F_Bench_openPairs at h
  rw [if_pos hg] at h
  refine pE_rel (d := d + 5) ?_
  show pmE pG _ mi_Bench_openPairs 0 [some (.ref a), some (.int p0), none, none] [] S _
  refine pE_jump 4 (pc' := 4) (ls' := [some (.ref a), some (.int p0), some (.int 0), some (.int 0)]) (st' := []) (fun _ => rfl) ?_
  exact f_Bench_openPairs_4 sp d N a p0 N 0 0 S _ h
def F_Wires_hungPairs (N : Nat) (S : pm_S) (a : Nat) (p0 : Int32) : Option (Int32 × pm_S) :=
    if rcv S a 9 = true then
    ((oR S a 9 10).bind fun oq1 => match oq1 with
    | none => none
    | some q1 =>
    (oR S q1 1 2).bind fun oq2 => match oq2 with
    | none => none
    | some q2 =>
    (F_Wires_pairsWith N S a q2 p0).bind fun (v4, S3) =>
    some (v4, S3))
    else none
theorem g_Wires_hungPairs {N : Nat} {S : pm_S} {a : Nat} {p0 : Int32} {r : (Int32 × pm_S)} (h : F_Wires_hungPairs N S a p0 = some r) : rcv S a 9 = true := by
  unfold F_Wires_hungPairs at h
  by_cases c : rcv S a 9 = true
  · exact c
  · rw [if_neg c] at h; cases h
set_option maxHeartbeats 4000000 in
set_option maxRecDepth 20000 in
theorem f_Wires_hungPairs (sp : pm_I → List Value → pm_S → pm_O → Prop) (d N : Nat) (S : pm_S) (a : Nat) (p0 : Int32) (r : (Int32 × pm_S)) (h : F_Wires_hungPairs N S a p0 = some r) : pm_rel pG sp (d + 4) mi_Wires_hungPairs [.ref a, .int p0] S (some (.int r.1), r.2) := by
  have hg := g_Wires_hungPairs h
  unfold F_Wires_hungPairs at h
  rw [if_pos hg] at h
  refine pE_rel (d := d + 3) ?_
  show pmE pG _ mi_Wires_hungPairs 0 [some (.ref a), some (.int p0)] [] S _
  refine pE_jump 2 (pc' := 2) (ls' := [some (.ref a), some (.int p0)]) (st' := [.ref a, .ref a]) (fun _ => rfl) ?_
  obtain ⟨oq1, hq1, h⟩ := obind h
  cases oq1 with
  | none => cases h
  | some q1 =>
    try dsimp only at h
    refine pE_gfS rfl rfl hq1 ?_
    obtain ⟨oq2, hq2, h⟩ := obind h
    cases oq2 with
    | none => cases h
    | some q2 =>
      try dsimp only at h
      refine pE_gfS rfl rfl hq2 ?_
      refine pE_jump 1 (pc' := 9) (ls' := [some (.ref a), some (.int p0)]) (st' := [.int p0, .ref q2, .ref a]) (fun _ => rfl) ?_
      obtain ⟨⟨v4, S3⟩, hv4, h⟩ := obind h
      try dsimp only at h
      refine pE_iv (Bs := [.ref q2, .int p0]) (st := []) 1 rfl (Or.inl ⟨rfl, rfl⟩) rfl rfl (Nat.le_of_ble_eq_true rfl) (Nat.le_of_ble_eq_true rfl) (g_Wires_pairsWith hv4) (f_Wires_pairsWith sp d N S a q2 p0 _ hv4) ?_
      cases h
      exact pE_ret rfl rfl rfl
def F_BP_spare_23 (N : Nat)   (S : pm_S) : Option (Int32 × pm_S) :=
    some ((-1), S)
set_option maxHeartbeats 4000000 in
set_option maxRecDepth 20000 in
theorem f_BP_spare_23 (sp : pm_I → List Value → pm_S → pm_O → Prop) (d N : Nat)   (S : pm_S)  (r : (Int32 × pm_S)) (h : F_BP_spare_23 N   S = some r) : pmE pG (pm_rel pG sp (d + 6)) mi_BP_spare 23 [none, none, none, none, none] [] S (some (.int r.1), r.2) := by
  unfold F_BP_spare_23 at h
  refine pE_jump 1 (pc' := 24) (ls' := [none, none, none, none, none]) (st' := [.int (-1)]) (fun _ => rfl) ?_
  cases h
  exact pE_ret rfl rfl rfl
def F_BP_spare (N : Nat) (S : pm_S) (a : Nat) (p0 : Int32) (p1 : Int32) (p2 : Int32) : Option (Int32 × pm_S) :=
    if rcv S a 10 = true then
    ((F_BP_planWith N S a p0 p1).bind fun (oq2, S1) => match oq2 with
    | none => F_BP_spare_23 N S1
    | some q2 =>
    (F_Plan_cableTo N S1 q2 p2).bind fun (v4, S3) =>
    if v4 = (-1) then
    F_BP_spare_23 N S3
    else
    ((oR S3 a 10 3).bind fun oq5 => match oq5 with
    | none => none
    | some q5 =>
    (oR S3 q5 0 0).bind fun oq6 => match oq6 with
    | none => none
    | some q6 =>
    (F_Wires_lay N S3 q6 q2 p1).bind fun S7 =>
    (oR S7 a 10 3).bind fun oq8 => match oq8 with
    | none => none
    | some q8 =>
    (F_Plan_cableTo N S7 q2 p2).bind fun (v12, S11) =>
    (F_Bench_openPairs N S11 q8 v12).bind fun (v14, S13) =>
    (oR S13 a 10 3).bind fun oq15 => match oq15 with
    | none => none
    | some q15 =>
    (oR S13 q15 0 0).bind fun oq16 => match oq16 with
    | none => none
    | some q16 =>
    (F_Plan_cableTo N S13 q2 p2).bind fun (v20, S19) =>
    (F_Wires_hungPairs N S19 q16 v20).bind fun (v22, S21) =>
    some (v14 &&& (v22 ^^^ (-1)), S21)))
    else none
theorem g_BP_spare {N : Nat} {S : pm_S} {a : Nat} {p0 : Int32} {p1 : Int32} {p2 : Int32} {r : (Int32 × pm_S)} (h : F_BP_spare N S a p0 p1 p2 = some r) : rcv S a 10 = true := by
  unfold F_BP_spare at h
  by_cases c : rcv S a 10 = true
  · exact c
  · rw [if_neg c] at h; cases h
set_option maxHeartbeats 4000000 in
set_option maxRecDepth 20000 in
theorem f_BP_spare (sp : pm_I → List Value → pm_S → pm_O → Prop) (d N : Nat) (S : pm_S) (a : Nat) (p0 : Int32) (p1 : Int32) (p2 : Int32) (r : (Int32 × pm_S)) (h : F_BP_spare N S a p0 p1 p2 = some r) : pm_rel pG sp (d + 7) mi_BP_spare [.ref a, .int p0, .int p1, .int p2] S (some (.int r.1), r.2) := by
  have hg := g_BP_spare h
  unfold F_BP_spare at h
  rw [if_pos hg] at h
  refine pE_rel (d := d + 6) ?_
  show pmE pG _ mi_BP_spare 0 [some (.ref a), some (.int p0), some (.int p1), some (.int p2), none] [] S _
  refine pE_jump 3 (pc' := 3) (ls' := [some (.ref a), some (.int p0), some (.int p1), some (.int p2), none]) (st' := [.int p1, .int p0, .ref a]) (fun _ => rfl) ?_
  obtain ⟨⟨oq2, S1⟩, hq2, h⟩ := obind h
  try dsimp only at h
  cases oq2 with
  | none =>
    try dsimp only at h
    refine pE_iv (Bs := [.int p0, .int p1]) (st := []) 1 rfl (Or.inl ⟨rfl, rfl⟩) rfl rfl (Nat.le_of_ble_eq_true rfl) (Nat.le_of_ble_eq_true rfl) (g_BP_planWith hq2) (f_BP_planWith sp (d + 2) N S a p0 p1 _ hq2) ?_
    refine pE_jump 3 (pc' := 23) (ls' := [some (.ref a), some (.int p0), some (.int p1), some (.int p2), some (.null)]) (st' := []) (fun _ => rfl) ?_
    refine pE_weak [none, none, none, none, none] trivial ?_
    exact f_BP_spare_23 sp d N S1 _ h
  | some q2 =>
    try dsimp only at h
    refine pE_iv (Bs := [.int p0, .int p1]) (st := []) 1 rfl (Or.inl ⟨rfl, rfl⟩) rfl rfl (Nat.le_of_ble_eq_true rfl) (Nat.le_of_ble_eq_true rfl) (g_BP_planWith hq2) (f_BP_planWith sp (d + 2) N S a p0 p1 _ hq2) ?_
    refine pE_jump 5 (pc' := 16) (ls' := [some (.ref a), some (.int p0), some (.int p1), some (.int p2), some (.ref q2)]) (st' := [.int p2, .ref q2]) (fun _ => rfl) ?_
    obtain ⟨⟨v4, S3⟩, hv4, h⟩ := obind h
    try dsimp only at h
    refine pE_iv (Bs := [.int p2]) (st := []) 1 rfl (Or.inl ⟨rfl, rfl⟩) rfl rfl (Nat.le_of_ble_eq_true rfl) (Nat.le_of_ble_eq_true rfl) (g_Plan_cableTo hv4) (f_Plan_cableTo sp (d + 4) N S1 q2 p2 _ hv4) ?_
    refine pE_jump 1 (pc' := 20) (ls' := [some (.ref a), some (.int p0), some (.int p1), some (.int p2), some (.ref q2)]) (st' := [.int (-1), .int v4]) (fun _ => rfl) ?_
    refine pE_br (¬ v4 = (-1)) rfl rfl (fun c23 => ?_) (fun c23 => ?_)
    · rw [if_neg c23] at h
      refine pE_jump 1 (pc' := 26) (ls' := [some (.ref a), some (.int p0), some (.int p1), some (.int p2), some (.ref q2)]) (st' := [.ref a]) (fun _ => rfl) ?_
      obtain ⟨oq5, hq5, h⟩ := obind h
      cases oq5 with
      | none => cases h
      | some q5 =>
        try dsimp only at h
        refine pE_gfS rfl rfl hq5 ?_
        obtain ⟨oq6, hq6, h⟩ := obind h
        cases oq6 with
        | none => cases h
        | some q6 =>
          try dsimp only at h
          refine pE_gfS rfl rfl hq6 ?_
          refine pE_jump 2 (pc' := 35) (ls' := [some (.ref a), some (.int p0), some (.int p1), some (.int p2), some (.ref q2)]) (st' := [.int p1, .ref q2, .ref q6]) (fun _ => rfl) ?_
          obtain ⟨S7, hS7, h⟩ := obind h
          refine pE_iv (Bs := [.ref q2, .int p1]) (st := []) 1 rfl (Or.inl ⟨rfl, rfl⟩) rfl rfl (Nat.le_of_ble_eq_true rfl) (Nat.le_of_ble_eq_true rfl) (g_Wires_lay hS7) (f_Wires_lay sp (d + 1) N S3 q6 q2 p1 _ hS7) ?_
          refine pE_jump 1 (pc' := 39) (ls' := [some (.ref a), some (.int p0), some (.int p1), some (.int p2), some (.ref q2)]) (st' := [.ref a]) (fun _ => rfl) ?_
          obtain ⟨oq8, hq8, h⟩ := obind h
          cases oq8 with
          | none => cases h
          | some q8 =>
            try dsimp only at h
            refine pE_gfS rfl rfl hq8 ?_
            refine pE_jump 2 (pc' := 45) (ls' := [some (.ref a), some (.int p0), some (.int p1), some (.int p2), some (.ref q2)]) (st' := [.int p2, .ref q2, .ref q8]) (fun _ => rfl) ?_
            obtain ⟨⟨v12, S11⟩, hv12, h⟩ := obind h
            try dsimp only at h
            refine pE_iv (Bs := [.int p2]) (st := [.ref q8]) 1 rfl (Or.inl ⟨rfl, rfl⟩) rfl rfl (Nat.le_of_ble_eq_true rfl) (Nat.le_of_ble_eq_true rfl) (g_Plan_cableTo hv12) (f_Plan_cableTo sp (d + 4) N S7 q2 p2 _ hv12) ?_
            obtain ⟨⟨v14, S13⟩, hv14, h⟩ := obind h
            try dsimp only at h
            refine pE_iv (Bs := [.int v12]) (st := []) 1 rfl (Or.inl ⟨rfl, rfl⟩) rfl rfl (Nat.le_of_ble_eq_true rfl) (Nat.le_of_ble_eq_true rfl) (g_Bench_openPairs hv14) (f_Bench_openPairs sp d N S11 q8 v12 _ hv14) ?_
            refine pE_jump 1 (pc' := 52) (ls' := [some (.ref a), some (.int p0), some (.int p1), some (.int p2), some (.ref q2)]) (st' := [.ref a, .int v14]) (fun _ => rfl) ?_
            obtain ⟨oq15, hq15, h⟩ := obind h
            cases oq15 with
            | none => cases h
            | some q15 =>
              try dsimp only at h
              refine pE_gfS rfl rfl hq15 ?_
              obtain ⟨oq16, hq16, h⟩ := obind h
              cases oq16 with
              | none => cases h
              | some q16 =>
                try dsimp only at h
                refine pE_gfS rfl rfl hq16 ?_
                refine pE_jump 2 (pc' := 61) (ls' := [some (.ref a), some (.int p0), some (.int p1), some (.int p2), some (.ref q2)]) (st' := [.int p2, .ref q2, .ref q16, .int v14]) (fun _ => rfl) ?_
                obtain ⟨⟨v20, S19⟩, hv20, h⟩ := obind h
                try dsimp only at h
                refine pE_iv (Bs := [.int p2]) (st := [.ref q16, .int v14]) 1 rfl (Or.inl ⟨rfl, rfl⟩) rfl rfl (Nat.le_of_ble_eq_true rfl) (Nat.le_of_ble_eq_true rfl) (g_Plan_cableTo hv20) (f_Plan_cableTo sp (d + 4) N S13 q2 p2 _ hv20) ?_
                obtain ⟨⟨v22, S21⟩, hv22, h⟩ := obind h
                try dsimp only at h
                refine pE_iv (Bs := [.int v20]) (st := [.int v14]) 1 rfl (Or.inl ⟨rfl, rfl⟩) rfl rfl (Nat.le_of_ble_eq_true rfl) (Nat.le_of_ble_eq_true rfl) (g_Wires_hungPairs hv22) (f_Wires_hungPairs sp (d + 2) N S19 q16 v20 _ hv22) ?_
                refine pE_jump 3 (pc' := 70) (ls' := [some (.ref a), some (.int p0), some (.int p1), some (.int p2), some (.ref q2)]) (st' := [.int (v14 &&& (v22 ^^^ (-1)))]) (fun _ => rfl) ?_
                cases h
                exact pE_ret rfl rfl rfl
    · have c23 := Decidable.not_not.mp c23
      rw [if_pos c23] at h
      refine pE_weak [none, none, none, none, none] trivial ?_
      exact f_BP_spare_23 sp d N S3 _ h
def F_BP_test_31 (N : Nat)   (S : pm_S) : Option (Int32 × pm_S) :=
    some ((-1), S)
set_option maxHeartbeats 4000000 in
set_option maxRecDepth 20000 in
theorem f_BP_test_31 (sp : pm_I → List Value → pm_S → pm_O → Prop) (d N : Nat)   (S : pm_S)  (r : (Int32 × pm_S)) (h : F_BP_test_31 N   S = some r) : pmE pG (pm_rel pG sp (d + 3)) mi_BP_test 31 [none, none, none, none, none, none, none, none, none, none] [] S (some (.int r.1), r.2) := by
  unfold F_BP_test_31 at h
  refine pE_jump 1 (pc' := 32) (ls' := [none, none, none, none, none, none, none, none, none, none]) (st' := [.int (-1)]) (fun _ => rfl) ?_
  cases h
  exact pE_ret rfl rfl rfl
def F_BP_test_111_2 (N : Nat)  (t0 : Int32) (t1 : Int32) (t2 : Int32) (t3 : Int32) (t4 : Int32) (t5 : Nat) (S : pm_S) : Option (Int32 × pm_S) :=
    (F_Ledger_add N S t5 t4 t3 t2 t1 t0).bind fun (v15, S14) =>
    some (v15, S14)
set_option maxHeartbeats 4000000 in
set_option maxRecDepth 20000 in
theorem f_BP_test_111_2 (sp : pm_I → List Value → pm_S → pm_O → Prop) (d N : Nat)  (t0 : Int32) (t1 : Int32) (t2 : Int32) (t3 : Int32) (t4 : Int32) (t5 : Nat) (S : pm_S)  (r : (Int32 × pm_S)) (h : F_BP_test_111_2 N  t0 t1 t2 t3 t4 t5 S = some r) : pmE pG (pm_rel pG sp (d + 3)) mi_BP_test 111 [none, none, none, none, none, none, none, none, none, none] [.int t0, .int t1, .int t2, .int t3, .int t4, .ref t5] S (some (.int r.1), r.2) := by
  unfold F_BP_test_111_2 at h
  obtain ⟨⟨v15, S14⟩, hv15, h⟩ := obind h
  try dsimp only at h
  refine pE_iv (Bs := [.int t4, .int t3, .int t2, .int t1, .int t0]) (st := []) 1 rfl (Or.inl ⟨rfl, rfl⟩) rfl rfl (Nat.le_of_ble_eq_true rfl) (Nat.le_of_ble_eq_true rfl) (g_Ledger_add hv15) (f_Ledger_add sp (d + 1) N S t5 t4 t3 t2 t1 t0 _ hv15) ?_
  cases h
  exact pE_ret rfl rfl rfl
def F_BP_test_99_2 (N : Nat)  (x5 : Int32) (x7 : Int32) (x9 : Int32) (t0 : Int32) (t1 : Int32) (t2 : Int32) (t3 : Int32) (t4 : Nat) (S : pm_S) : Option (Int32 × pm_S) :=
    if x9 = 0 then
    F_BP_test_111_2 N x5 t0 t1 t2 t3 t4 S
    else
    F_BP_test_111_2 N x7 t0 t1 t2 t3 t4 S
set_option maxHeartbeats 4000000 in
set_option maxRecDepth 20000 in
theorem f_BP_test_99_2 (sp : pm_I → List Value → pm_S → pm_O → Prop) (d N : Nat)  (x5 : Int32) (x7 : Int32) (x9 : Int32) (t0 : Int32) (t1 : Int32) (t2 : Int32) (t3 : Int32) (t4 : Nat) (S : pm_S)  (r : (Int32 × pm_S)) (h : F_BP_test_99_2 N  x5 x7 x9 t0 t1 t2 t3 t4 S = some r) : pmE pG (pm_rel pG sp (d + 3)) mi_BP_test 99 [none, none, none, none, none, some (.int x5), none, some (.int x7), none, some (.int x9)] [.int t0, .int t1, .int t2, .int t3, .ref t4] S (some (.int r.1), r.2) := by
  unfold F_BP_test_99_2 at h
  refine pE_jump 1 (pc' := 101) (ls' := [none, none, none, none, none, some (.int x5), none, some (.int x7), none, some (.int x9)]) (st' := [.int x9, .int t0, .int t1, .int t2, .int t3, .ref t4]) (fun _ => rfl) ?_
  refine pE_br (x9 = 0) rfl rfl (fun c16 => ?_) (fun c16 => ?_)
  · rw [if_pos c16] at h
    refine pE_jump 1 (pc' := 111) (ls' := [none, none, none, none, none, some (.int x5), none, some (.int x7), none, some (.int x9)]) (st' := [.int x5, .int t0, .int t1, .int t2, .int t3, .ref t4]) (fun _ => rfl) ?_
    refine pE_weak [none, none, none, none, none, none, none, none, none, none] trivial ?_
    exact f_BP_test_111_2 sp d N x5 t0 t1 t2 t3 t4 S _ h
  · rw [if_neg c16] at h
    refine pE_jump 2 (pc' := 111) (ls' := [none, none, none, none, none, some (.int x5), none, some (.int x7), none, some (.int x9)]) (st' := [.int x7, .int t0, .int t1, .int t2, .int t3, .ref t4]) (fun _ => rfl) ?_
    refine pE_weak [none, none, none, none, none, none, none, none, none, none] trivial ?_
    exact f_BP_test_111_2 sp d N x7 t0 t1 t2 t3 t4 S _ h
def F_BP_test_74 (N : Nat)  (x2 : Int32) (x3 : Int32) (x4 : Int32) (x5 : Int32) (x6 : Int32) (x7 : Int32) (x8 : Nat) (x9 : Int32) (S : pm_S) : Option (Int32 × pm_S) :=
    (oR S x8 4 8).bind fun oq9 => match oq9 with
    | none => none
    | some q9 =>
    (F_BP_siteOf N S x3 x4).bind fun (v13, S12) =>
    if x9 = 0 then
    F_BP_test_99_2 N x5 x7 x9 x3 x5 v13 x2 q9 S12
    else
    F_BP_test_99_2 N x5 x7 x9 x6 x5 v13 x2 q9 S12
set_option maxHeartbeats 4000000 in
set_option maxRecDepth 20000 in
theorem f_BP_test_74 (sp : pm_I → List Value → pm_S → pm_O → Prop) (d N : Nat)  (x2 : Int32) (x3 : Int32) (x4 : Int32) (x5 : Int32) (x6 : Int32) (x7 : Int32) (x8 : Nat) (x9 : Int32) (S : pm_S)  (r : (Int32 × pm_S)) (h : F_BP_test_74 N  x2 x3 x4 x5 x6 x7 x8 x9 S = some r) : pmE pG (pm_rel pG sp (d + 3)) mi_BP_test 74 [none, none, some (.int x2), some (.int x3), some (.int x4), some (.int x5), some (.int x6), some (.int x7), some (.ref x8), some (.int x9)] [] S (some (.int r.1), r.2) := by
  unfold F_BP_test_74 at h
  refine pE_jump 1 (pc' := 76) (ls' := [none, none, some (.int x2), some (.int x3), some (.int x4), some (.int x5), some (.int x6), some (.int x7), some (.ref x8), some (.int x9)]) (st' := [.ref x8]) (fun _ => rfl) ?_
  obtain ⟨oq9, hq9, h⟩ := obind h
  cases oq9 with
  | none => cases h
  | some q9 =>
    try dsimp only at h
    refine pE_gfS rfl rfl hq9 ?_
    refine pE_jump 3 (pc' := 83) (ls' := [none, none, some (.int x2), some (.int x3), some (.int x4), some (.int x5), some (.int x6), some (.int x7), some (.ref x8), some (.int x9)]) (st' := [.int x4, .int x3, .int x2, .ref q9]) (fun _ => rfl) ?_
    obtain ⟨⟨v13, S12⟩, hv13, h⟩ := obind h
    try dsimp only at h
    refine pE_is (Bs := [.int x3, .int x4]) (st := [.int x2, .ref q9]) rfl rfl rfl (Nat.le_of_ble_eq_true rfl) (Nat.le_of_ble_eq_true rfl) (f_BP_siteOf sp (d + 2) N S x3 x4 _ hv13) ?_
    refine pE_jump 2 (pc' := 90) (ls' := [none, none, some (.int x2), some (.int x3), some (.int x4), some (.int x5), some (.int x6), some (.int x7), some (.ref x8), some (.int x9)]) (st' := [.int x9, .int x5, .int v13, .int x2, .ref q9]) (fun _ => rfl) ?_
    refine pE_br (x9 = 0) rfl rfl (fun c17 => ?_) (fun c17 => ?_)
    · rw [if_pos c17] at h
      refine pE_jump 1 (pc' := 99) (ls' := [none, none, some (.int x2), some (.int x3), some (.int x4), some (.int x5), some (.int x6), some (.int x7), some (.ref x8), some (.int x9)]) (st' := [.int x3, .int x5, .int v13, .int x2, .ref q9]) (fun _ => rfl) ?_
      refine pE_weak [none, none, none, none, none, some (.int x5), none, some (.int x7), none, some (.int x9)] ⟨rfl, ⟨rfl, ⟨rfl, trivial⟩⟩⟩ ?_
      exact f_BP_test_99_2 sp d N x5 x7 x9 x3 x5 v13 x2 q9 S12 _ h
    · rw [if_neg c17] at h
      refine pE_jump 2 (pc' := 99) (ls' := [none, none, some (.int x2), some (.int x3), some (.int x4), some (.int x5), some (.int x6), some (.int x7), some (.ref x8), some (.int x9)]) (st' := [.int x6, .int x5, .int v13, .int x2, .ref q9]) (fun _ => rfl) ?_
      refine pE_weak [none, none, none, none, none, some (.int x5), none, some (.int x7), none, some (.int x9)] ⟨rfl, ⟨rfl, ⟨rfl, trivial⟩⟩⟩ ?_
      exact f_BP_test_99_2 sp d N x5 x7 x9 x6 x5 v13 x2 q9 S12 _ h
def F_BP_test_60 (N : Nat)  (x2 : Int32) (x3 : Int32) (x4 : Int32) (x5 : Int32) (x6 : Int32) (x7 : Int32) (x8 : Nat) (t0 : Int32) (S : pm_S) : Option (Int32 × pm_S) :=
    if t0 = 0 then
    (if x2 = 1 then
    F_BP_test_74 N x2 x3 x4 x5 x6 x7 x8 t0 S
    else
    some ((-1), S))
    else
    F_BP_test_74 N x2 x3 x4 x5 x6 x7 x8 t0 S
set_option maxHeartbeats 4000000 in
set_option maxRecDepth 20000 in
theorem f_BP_test_60 (sp : pm_I → List Value → pm_S → pm_O → Prop) (d N : Nat)  (x2 : Int32) (x3 : Int32) (x4 : Int32) (x5 : Int32) (x6 : Int32) (x7 : Int32) (x8 : Nat) (t0 : Int32) (S : pm_S)  (r : (Int32 × pm_S)) (h : F_BP_test_60 N  x2 x3 x4 x5 x6 x7 x8 t0 S = some r) : pmE pG (pm_rel pG sp (d + 3)) mi_BP_test 60 [none, none, some (.int x2), some (.int x3), some (.int x4), some (.int x5), some (.int x6), some (.int x7), some (.ref x8), none] [.int t0] S (some (.int r.1), r.2) := by
  unfold F_BP_test_60 at h
  refine pE_jump 2 (pc' := 64) (ls' := [none, none, some (.int x2), some (.int x3), some (.int x4), some (.int x5), some (.int x6), some (.int x7), some (.ref x8), some (.int t0)]) (st' := [.int t0]) (fun _ => rfl) ?_
  refine pE_br (¬ t0 = 0) rfl rfl (fun c19 => ?_) (fun c19 => ?_)
  · rw [if_neg c19] at h
    exact f_BP_test_74 sp d N x2 x3 x4 x5 x6 x7 x8 t0 S _ h
  · have c19 := Decidable.not_not.mp c19
    rw [if_pos c19] at h
    refine pE_jump 2 (pc' := 69) (ls' := [none, none, some (.int x2), some (.int x3), some (.int x4), some (.int x5), some (.int x6), some (.int x7), some (.ref x8), some (.int t0)]) (st' := [.int 1, .int x2]) (fun _ => rfl) ?_
    refine pE_br (x2 = 1) rfl rfl (fun c18 => ?_) (fun c18 => ?_)
    · rw [if_pos c18] at h
      exact f_BP_test_74 sp d N x2 x3 x4 x5 x6 x7 x8 t0 S _ h
    · rw [if_neg c18] at h
      refine pE_jump 1 (pc' := 73) (ls' := [none, none, some (.int x2), some (.int x3), some (.int x4), some (.int x5), some (.int x6), some (.int x7), some (.ref x8), some (.int t0)]) (st' := [.int (-1)]) (fun _ => rfl) ?_
      cases h
      exact pE_ret rfl rfl rfl
def F_BP_test_59 (N : Nat)  (x2 : Int32) (x3 : Int32) (x4 : Int32) (x5 : Int32) (x6 : Int32) (x7 : Int32) (x8 : Nat) (S : pm_S) : Option (Int32 × pm_S) :=
    F_BP_test_60 N x2 x3 x4 x5 x6 x7 x8 0 S
set_option maxHeartbeats 4000000 in
set_option maxRecDepth 20000 in
theorem f_BP_test_59 (sp : pm_I → List Value → pm_S → pm_O → Prop) (d N : Nat)  (x2 : Int32) (x3 : Int32) (x4 : Int32) (x5 : Int32) (x6 : Int32) (x7 : Int32) (x8 : Nat) (S : pm_S)  (r : (Int32 × pm_S)) (h : F_BP_test_59 N  x2 x3 x4 x5 x6 x7 x8 S = some r) : pmE pG (pm_rel pG sp (d + 3)) mi_BP_test 59 [none, none, some (.int x2), some (.int x3), some (.int x4), some (.int x5), some (.int x6), some (.int x7), some (.ref x8), none] [] S (some (.int r.1), r.2) := by
  unfold F_BP_test_59 at h
  refine pE_jump 1 (pc' := 60) (ls' := [none, none, some (.int x2), some (.int x3), some (.int x4), some (.int x5), some (.int x6), some (.int x7), some (.ref x8), none]) (st' := [.int 0]) (fun _ => rfl) ?_
  exact f_BP_test_60 sp d N x2 x3 x4 x5 x6 x7 x8 0 S _ h
def F_BP_test (N : Nat) (S : pm_S) (a : Nat) (p0 : Int32) (p1 : Int32) (p2 : Int32) (p3 : Int32) (p4 : Int32) (p5 : Int32) (p6 : Int32) : Option (Int32 × pm_S) :=
    if rcv S a 10 = true then
    ((F_BP_planAt N S a p0).bind fun (oq2, S1) => match oq2 with
    | none => F_BP_test_31 N S1
    | some q2 =>
    (F_Plan_hasPair N S1 q2 p2 p3).bind fun (v4, S3) =>
    if v4 = 0 then
    F_BP_test_31 N S3
    else
    ((F_BP_isEnd N S3 p4).bind fun (v6, S5) =>
    if v6 = 0 then
    F_BP_test_31 N S5
    else
    (if p1 = 0 then
    ((F_Plan_hasCable N S5 q2 p5).bind fun (v8, S7) =>
    if v8 = 0 then
    F_BP_test_59 N p1 p2 p3 p4 p5 p6 q2 S7
    else
    ((F_BP_isEnd N S7 p6).bind fun (v21, S20) =>
    if v21 = 0 then
    F_BP_test_59 N p1 p2 p3 p4 p5 p6 q2 S20
    else
    F_BP_test_60 N p1 p2 p3 p4 p5 p6 q2 1 S20))
    else
    F_BP_test_59 N p1 p2 p3 p4 p5 p6 q2 S5)))
    else none
theorem g_BP_test {N : Nat} {S : pm_S} {a : Nat} {p0 : Int32} {p1 : Int32} {p2 : Int32} {p3 : Int32} {p4 : Int32} {p5 : Int32} {p6 : Int32} {r : (Int32 × pm_S)} (h : F_BP_test N S a p0 p1 p2 p3 p4 p5 p6 = some r) : rcv S a 10 = true := by
  unfold F_BP_test at h
  by_cases c : rcv S a 10 = true
  · exact c
  · rw [if_neg c] at h; cases h
set_option maxHeartbeats 4000000 in
set_option maxRecDepth 20000 in
theorem f_BP_test (sp : pm_I → List Value → pm_S → pm_O → Prop) (d N : Nat) (S : pm_S) (a : Nat) (p0 : Int32) (p1 : Int32) (p2 : Int32) (p3 : Int32) (p4 : Int32) (p5 : Int32) (p6 : Int32) (r : (Int32 × pm_S)) (h : F_BP_test N S a p0 p1 p2 p3 p4 p5 p6 = some r) : pm_rel pG sp (d + 4) mi_BP_test [.ref a, .int p0, .int p1, .int p2, .int p3, .int p4, .int p5, .int p6] S (some (.int r.1), r.2) := by
  have hg := g_BP_test h
  unfold F_BP_test at h
  rw [if_pos hg] at h
  refine pE_rel (d := d + 3) ?_
  show pmE pG _ mi_BP_test 0 [some (.ref a), some (.int p0), some (.int p1), some (.int p2), some (.int p3), some (.int p4), some (.int p5), some (.int p6), none, none] [] S _
  refine pE_jump 2 (pc' := 2) (ls' := [some (.ref a), some (.int p0), some (.int p1), some (.int p2), some (.int p3), some (.int p4), some (.int p5), some (.int p6), none, none]) (st' := [.int p0, .ref a]) (fun _ => rfl) ?_
  obtain ⟨⟨oq2, S1⟩, hq2, h⟩ := obind h
  try dsimp only at h
  cases oq2 with
  | none =>
    try dsimp only at h
    refine pE_iv (Bs := [.int p0]) (st := []) 1 rfl (Or.inl ⟨rfl, rfl⟩) rfl rfl (Nat.le_of_ble_eq_true rfl) (Nat.le_of_ble_eq_true rfl) (g_BP_planAt hq2) (f_BP_planAt sp (d + 2) N S a p0 _ hq2) ?_
    refine pE_jump 3 (pc' := 31) (ls' := [some (.ref a), some (.int p0), some (.int p1), some (.int p2), some (.int p3), some (.int p4), some (.int p5), some (.int p6), some (.null), none]) (st' := []) (fun _ => rfl) ?_
    refine pE_weak [none, none, none, none, none, none, none, none, none, none] trivial ?_
    exact f_BP_test_31 sp d N S1 _ h
  | some q2 =>
    try dsimp only at h
    refine pE_iv (Bs := [.int p0]) (st := []) 1 rfl (Or.inl ⟨rfl, rfl⟩) rfl rfl (Nat.le_of_ble_eq_true rfl) (Nat.le_of_ble_eq_true rfl) (g_BP_planAt hq2) (f_BP_planAt sp (d + 2) N S a p0 _ hq2) ?_
    refine pE_jump 6 (pc' := 17) (ls' := [some (.ref a), some (.int p0), some (.int p1), some (.int p2), some (.int p3), some (.int p4), some (.int p5), some (.int p6), some (.ref q2), none]) (st' := [.int p3, .int p2, .ref q2]) (fun _ => rfl) ?_
    obtain ⟨⟨v4, S3⟩, hv4, h⟩ := obind h
    try dsimp only at h
    refine pE_iv (Bs := [.int p2, .int p3]) (st := []) 1 rfl (Or.inl ⟨rfl, rfl⟩) rfl rfl (Nat.le_of_ble_eq_true rfl) (Nat.le_of_ble_eq_true rfl) (g_Plan_hasPair hv4) (f_Plan_hasPair sp d N S1 q2 p2 p3 _ hv4) ?_
    refine pE_br (v4 = 0) rfl rfl (fun c26 => ?_) (fun c26 => ?_)
    · rw [if_pos c26] at h
      refine pE_weak [none, none, none, none, none, none, none, none, none, none] trivial ?_
      exact f_BP_test_31 sp d N S3 _ h
    · rw [if_neg c26] at h
      refine pE_jump 1 (pc' := 25) (ls' := [some (.ref a), some (.int p0), some (.int p1), some (.int p2), some (.int p3), some (.int p4), some (.int p5), some (.int p6), some (.ref q2), none]) (st' := [.int p4]) (fun _ => rfl) ?_
      obtain ⟨⟨v6, S5⟩, hv6, h⟩ := obind h
      try dsimp only at h
      refine pE_is (Bs := [.int p4]) (st := []) rfl rfl rfl (Nat.le_of_ble_eq_true rfl) (Nat.le_of_ble_eq_true rfl) (f_BP_isEnd sp (d + 2) N S3 p4 _ hv6) ?_
      refine pE_br (¬ v6 = 0) rfl rfl (fun c25 => ?_) (fun c25 => ?_)
      · rw [if_neg c25] at h
        refine pE_jump 1 (pc' := 34) (ls' := [some (.ref a), some (.int p0), some (.int p1), some (.int p2), some (.int p3), some (.int p4), some (.int p5), some (.int p6), some (.ref q2), none]) (st' := [.int p1]) (fun _ => rfl) ?_
        refine pE_br (¬ p1 = 0) rfl rfl (fun c24 => ?_) (fun c24 => ?_)
        · rw [if_neg c24] at h
          refine pE_weak [none, none, some (.int p1), some (.int p2), some (.int p3), some (.int p4), some (.int p5), some (.int p6), some (.ref q2), none] ⟨rfl, ⟨rfl, ⟨rfl, ⟨rfl, ⟨rfl, ⟨rfl, ⟨rfl, trivial⟩⟩⟩⟩⟩⟩⟩ ?_
          exact f_BP_test_59 sp d N p1 p2 p3 p4 p5 p6 q2 S5 _ h
        · have c24 := Decidable.not_not.mp c24
          rw [if_pos c24] at h
          refine pE_jump 2 (pc' := 41) (ls' := [some (.ref a), some (.int p0), some (.int p1), some (.int p2), some (.int p3), some (.int p4), some (.int p5), some (.int p6), some (.ref q2), none]) (st' := [.int p5, .ref q2]) (fun _ => rfl) ?_
          obtain ⟨⟨v8, S7⟩, hv8, h⟩ := obind h
          try dsimp only at h
          refine pE_iv (Bs := [.int p5]) (st := []) 1 rfl (Or.inl ⟨rfl, rfl⟩) rfl rfl (Nat.le_of_ble_eq_true rfl) (Nat.le_of_ble_eq_true rfl) (g_Plan_hasCable hv8) (f_Plan_hasCable sp (d + 1) N S5 q2 p5 _ hv8) ?_
          refine pE_br (v8 = 0) rfl rfl (fun c23 => ?_) (fun c23 => ?_)
          · rw [if_pos c23] at h
            refine pE_weak [none, none, some (.int p1), some (.int p2), some (.int p3), some (.int p4), some (.int p5), some (.int p6), some (.ref q2), none] ⟨rfl, ⟨rfl, ⟨rfl, ⟨rfl, ⟨rfl, ⟨rfl, ⟨rfl, trivial⟩⟩⟩⟩⟩⟩⟩ ?_
            exact f_BP_test_59 sp d N p1 p2 p3 p4 p5 p6 q2 S7 _ h
          · rw [if_neg c23] at h
            refine pE_jump 1 (pc' := 49) (ls' := [some (.ref a), some (.int p0), some (.int p1), some (.int p2), some (.int p3), some (.int p4), some (.int p5), some (.int p6), some (.ref q2), none]) (st' := [.int p6]) (fun _ => rfl) ?_
            obtain ⟨⟨v21, S20⟩, hv21, h⟩ := obind h
            try dsimp only at h
            refine pE_is (Bs := [.int p6]) (st := []) rfl rfl rfl (Nat.le_of_ble_eq_true rfl) (Nat.le_of_ble_eq_true rfl) (f_BP_isEnd sp (d + 2) N S7 p6 _ hv21) ?_
            refine pE_br (v21 = 0) rfl rfl (fun c22 => ?_) (fun c22 => ?_)
            · rw [if_pos c22] at h
              refine pE_weak [none, none, some (.int p1), some (.int p2), some (.int p3), some (.int p4), some (.int p5), some (.int p6), some (.ref q2), none] ⟨rfl, ⟨rfl, ⟨rfl, ⟨rfl, ⟨rfl, ⟨rfl, ⟨rfl, trivial⟩⟩⟩⟩⟩⟩⟩ ?_
              exact f_BP_test_59 sp d N p1 p2 p3 p4 p5 p6 q2 S20 _ h
            · rw [if_neg c22] at h
              refine pE_jump 2 (pc' := 60) (ls' := [some (.ref a), some (.int p0), some (.int p1), some (.int p2), some (.int p3), some (.int p4), some (.int p5), some (.int p6), some (.ref q2), none]) (st' := [.int 1]) (fun _ => rfl) ?_
              refine pE_weak [none, none, some (.int p1), some (.int p2), some (.int p3), some (.int p4), some (.int p5), some (.int p6), some (.ref q2), none] ⟨rfl, ⟨rfl, ⟨rfl, ⟨rfl, ⟨rfl, ⟨rfl, ⟨rfl, trivial⟩⟩⟩⟩⟩⟩⟩ ?_
              exact f_BP_test_60 sp d N p1 p2 p3 p4 p5 p6 q2 1 S20 _ h
      · have c25 := Decidable.not_not.mp c25
        rw [if_pos c25] at h
        refine pE_weak [none, none, none, none, none, none, none, none, none, none] trivial ?_
        exact f_BP_test_31 sp d N S5 _ h
