def F_Plan_setWanted_53 (N : Nat)  (x0 : Nat) (x1 : Int32) (x2 : Int32) (S : pm_S) : Option (Int32 × pm_S) :=
    (oR S x0 4 10).bind fun oq7 => match oq7 with
    | none => none
    | some q7 =>
    (F_BP_setAt N S q7 x1 x2).bind fun S8 =>
    some (1, S8)
set_option maxHeartbeats 4000000 in
set_option maxRecDepth 20000 in
theorem f_Plan_setWanted_53 (sp : pm_I → List Value → pm_S → pm_O → Prop) (d N : Nat)  (x0 : Nat) (x1 : Int32) (x2 : Int32) (S : pm_S)  (r : (Int32 × pm_S)) (h : F_Plan_setWanted_53 N  x0 x1 x2 S = some r) : pmE pG (pm_rel pG sp (d + 3)) mi_Plan_setWanted 53 [some (.ref x0), some (.int x1), some (.int x2), none, none] [] S (some (.int r.1), r.2) := by
  unfold F_Plan_setWanted_53 at h
  refine pE_jump 1 (pc' := 54) (ls' := [some (.ref x0), some (.int x1), some (.int x2), none, none]) (st' := [.ref x0]) (fun _ => rfl) ?_
  obtain ⟨oq7, hq7, h⟩ := obind h
  cases oq7 with
  | none => cases h
  | some q7 =>
    try dsimp only at h
    refine pE_gfS rfl rfl hq7 ?_
    refine pE_jump 2 (pc' := 59) (ls' := [some (.ref x0), some (.int x1), some (.int x2), none, none]) (st' := [.int x2, .int x1, .ref q7]) (fun _ => rfl) ?_
    obtain ⟨S8, hS8, h⟩ := obind h
    refine pE_is (Bs := [.ref q7, .int x1, .int x2]) (st := []) rfl rfl rfl (Nat.le_of_ble_eq_true rfl) (Nat.le_of_ble_eq_true rfl) (f_BP_setAt sp (d + 2) N S q7 x1 x2 _ hS8) ?_
    refine pE_jump 1 (pc' := 63) (ls' := [some (.ref x0), some (.int x1), some (.int x2), none, none]) (st' := [.int 1]) (fun _ => rfl) ?_
    cases h
    exact pE_ret rfl rfl rfl
def F_Plan_setWanted_51 (N : Nat)   (S : pm_S) : Option (Int32 × pm_S) :=
    some (0, S)
set_option maxHeartbeats 4000000 in
set_option maxRecDepth 20000 in
theorem f_Plan_setWanted_51 (sp : pm_I → List Value → pm_S → pm_O → Prop) (d N : Nat)   (S : pm_S)  (r : (Int32 × pm_S)) (h : F_Plan_setWanted_51 N   S = some r) : pmE pG (pm_rel pG sp (d + 3)) mi_Plan_setWanted 51 [none, none, none, none, none] [] S (some (.int r.1), r.2) := by
  unfold F_Plan_setWanted_51 at h
  refine pE_jump 1 (pc' := 52) (ls' := [none, none, none, none, none]) (st' := [.int 0]) (fun _ => rfl) ?_
  cases h
  exact pE_ret rfl rfl rfl
def F_Plan_setWanted (N : Nat) (S : pm_S) (a : Nat) (p0 : Int32) (p1 : Int32) : Option (Int32 × pm_S) :=
    if rcv S a 4 = true then
    ((oR S a 4 5).bind fun oq1 => match oq1 with
    | none => none
    | some q1 =>
    (oR S q1 1 3).bind fun oq2 => match oq2 with
    | none => none
    | some q2 =>
    (F_BP_valueAt N S q2 p0).bind fun (v4, S3) =>
    if v4 = (-1) then
    some (0, S3)
    else
    ((F_BP_cableOf N S3 v4).bind fun (v6, S5) =>
    if p1 = (-1) then
    F_Plan_setWanted_53 N a p0 p1 S5
    else
    ((F_Plan_hasPair N S5 a v6 p1).bind fun (v10, S9) =>
    if v10 = 0 then
    F_Plan_setWanted_51 N S9
    else
    ((F_Plan_isWantedByOther N S9 a v6 p1 p0).bind fun (v12, S11) =>
    if v12 = 0 then
    F_Plan_setWanted_53 N a p0 p1 S11
    else
    F_Plan_setWanted_51 N S11))))
    else none
theorem g_Plan_setWanted {N : Nat} {S : pm_S} {a : Nat} {p0 : Int32} {p1 : Int32} {r : (Int32 × pm_S)} (h : F_Plan_setWanted N S a p0 p1 = some r) : rcv S a 4 = true := by
  unfold F_Plan_setWanted at h
  by_cases c : rcv S a 4 = true
  · exact c
  · rw [if_neg c] at h; cases h
set_option maxHeartbeats 4000000 in
set_option maxRecDepth 20000 in
theorem f_Plan_setWanted (sp : pm_I → List Value → pm_S → pm_O → Prop) (d N : Nat) (S : pm_S) (a : Nat) (p0 : Int32) (p1 : Int32) (r : (Int32 × pm_S)) (h : F_Plan_setWanted N S a p0 p1 = some r) : pm_rel pG sp (d + 4) mi_Plan_setWanted [.ref a, .int p0, .int p1] S (some (.int r.1), r.2) := by
  have hg := g_Plan_setWanted h
  unfold F_Plan_setWanted at h
  rw [if_pos hg] at h
  refine pE_rel (d := d + 3) ?_
  show pmE pG _ mi_Plan_setWanted 0 [some (.ref a), some (.int p0), some (.int p1), none, none] [] S _
  refine pE_jump 1 (pc' := 1) (ls' := [some (.ref a), some (.int p0), some (.int p1), none, none]) (st' := [.ref a]) (fun _ => rfl) ?_
  obtain ⟨oq1, hq1, h⟩ := obind h
  cases oq1 with
  | none => cases h
  | some q1 =>
    try dsimp only at h
    refine pE_gfS rfl rfl hq1 ?_
    obtain ⟨oq2, hq2, h⟩ := obind h
    cases oq2 with
    | none => cases h
    | some q2 =>
      try dsimp only at h
      refine pE_gfS rfl rfl hq2 ?_
      refine pE_jump 1 (pc' := 8) (ls' := [some (.ref a), some (.int p0), some (.int p1), none, none]) (st' := [.int p0, .ref q2]) (fun _ => rfl) ?_
      obtain ⟨⟨v4, S3⟩, hv4, h⟩ := obind h
      try dsimp only at h
      refine pE_is (Bs := [.ref q2, .int p0]) (st := []) rfl rfl rfl (Nat.le_of_ble_eq_true rfl) (Nat.le_of_ble_eq_true rfl) (f_BP_valueAt sp (d + 2) N S q2 p0 _ hv4) ?_
      refine pE_jump 3 (pc' := 14) (ls' := [some (.ref a), some (.int p0), some (.int p1), some (.int v4), none]) (st' := [.int (-1), .int v4]) (fun _ => rfl) ?_
      refine pE_br (¬ v4 = (-1)) rfl rfl (fun c16 => ?_) (fun c16 => ?_)
      · rw [if_neg c16] at h
        refine pE_jump 1 (pc' := 20) (ls' := [some (.ref a), some (.int p0), some (.int p1), some (.int v4), none]) (st' := [.int v4]) (fun _ => rfl) ?_
        obtain ⟨⟨v6, S5⟩, hv6, h⟩ := obind h
        try dsimp only at h
        refine pE_is (Bs := [.int v4]) (st := []) rfl rfl rfl (Nat.le_of_ble_eq_true rfl) (Nat.le_of_ble_eq_true rfl) (f_BP_cableOf sp (d + 2) N S3 v4 _ hv6) ?_
        refine pE_jump 3 (pc' := 27) (ls' := [some (.ref a), some (.int p0), some (.int p1), some (.int v4), some (.int v6)]) (st' := [.int (-1), .int p1]) (fun _ => rfl) ?_
        refine pE_br (p1 = (-1)) rfl rfl (fun c15 => ?_) (fun c15 => ?_)
        · rw [if_pos c15] at h
          refine pE_weak [some (.ref a), some (.int p0), some (.int p1), none, none] ⟨rfl, ⟨rfl, ⟨rfl, trivial⟩⟩⟩ ?_
          exact f_Plan_setWanted_53 sp d N a p0 p1 S5 _ h
        · rw [if_neg c15] at h
          refine pE_jump 3 (pc' := 34) (ls' := [some (.ref a), some (.int p0), some (.int p1), some (.int v4), some (.int v6)]) (st' := [.int p1, .int v6, .ref a]) (fun _ => rfl) ?_
          obtain ⟨⟨v10, S9⟩, hv10, h⟩ := obind h
          try dsimp only at h
          refine pE_iv (Bs := [.int v6, .int p1]) (st := []) 1 rfl (Or.inl ⟨rfl, rfl⟩) rfl rfl (Nat.le_of_ble_eq_true rfl) (Nat.le_of_ble_eq_true rfl) (g_Plan_hasPair hv10) (f_Plan_hasPair sp d N S5 a v6 p1 _ hv10) ?_
          refine pE_br (v10 = 0) rfl rfl (fun c14 => ?_) (fun c14 => ?_)
          · rw [if_pos c14] at h
            refine pE_weak [none, none, none, none, none] trivial ?_
            exact f_Plan_setWanted_51 sp d N S9 _ h
          · rw [if_neg c14] at h
            refine pE_jump 4 (pc' := 45) (ls' := [some (.ref a), some (.int p0), some (.int p1), some (.int v4), some (.int v6)]) (st' := [.int p0, .int p1, .int v6, .ref a]) (fun _ => rfl) ?_
            obtain ⟨⟨v12, S11⟩, hv12, h⟩ := obind h
            try dsimp only at h
            refine pE_iv (Bs := [.int v6, .int p1, .int p0]) (st := []) 1 rfl (Or.inl ⟨rfl, rfl⟩) rfl rfl (Nat.le_of_ble_eq_true rfl) (Nat.le_of_ble_eq_true rfl) (g_Plan_isWantedByOther hv12) (f_Plan_isWantedByOther sp (d + 1) N S9 a v6 p1 p0 _ hv12) ?_
            refine pE_br (v12 = 0) rfl rfl (fun c13 => ?_) (fun c13 => ?_)
            · rw [if_pos c13] at h
              refine pE_weak [some (.ref a), some (.int p0), some (.int p1), none, none] ⟨rfl, ⟨rfl, ⟨rfl, trivial⟩⟩⟩ ?_
              exact f_Plan_setWanted_53 sp d N a p0 p1 S11 _ h
            · rw [if_neg c13] at h
              refine pE_weak [none, none, none, none, none] trivial ?_
              exact f_Plan_setWanted_51 sp d N S11 _ h
      · have c16 := Decidable.not_not.mp c16
        rw [if_pos c16] at h
        refine pE_jump 1 (pc' := 18) (ls' := [some (.ref a), some (.int p0), some (.int p1), some (.int v4), none]) (st' := [.int 0]) (fun _ => rfl) ?_
        cases h
        exact pE_ret rfl rfl rfl
def F_BP_want_27 (N : Nat)  (t0 : Int32) (S : pm_S) : Option (Int32 × pm_S) :=
    if t0 = 0 ∨ t0 = 1 then some (t0, S) else none
set_option maxHeartbeats 4000000 in
set_option maxRecDepth 20000 in
theorem f_BP_want_27 (sp : pm_I → List Value → pm_S → pm_O → Prop) (d N : Nat)  (t0 : Int32) (S : pm_S)  (r : (Int32 × pm_S)) (h : F_BP_want_27 N  t0 S = some r) : pmE pG (pm_rel pG sp (d + 4)) mi_BP_want 27 [none, none, none, none, none] [.int t0] S (some (.int r.1), r.2) := by
  unfold F_BP_want_27 at h
  by_cases c3 : t0 = 0 ∨ t0 = 1
  · rw [if_pos c3] at h
    cases h
    exact pE_ret rfl (if_pos c3) rfl
  · rw [if_neg c3] at h
    cases h
def F_BP_want_26 (N : Nat)   (S : pm_S) : Option (Int32 × pm_S) :=
    F_BP_want_27 N 0 S
set_option maxHeartbeats 4000000 in
set_option maxRecDepth 20000 in
theorem f_BP_want_26 (sp : pm_I → List Value → pm_S → pm_O → Prop) (d N : Nat)   (S : pm_S)  (r : (Int32 × pm_S)) (h : F_BP_want_26 N   S = some r) : pmE pG (pm_rel pG sp (d + 4)) mi_BP_want 26 [none, none, none, none, none] [] S (some (.int r.1), r.2) := by
  unfold F_BP_want_26 at h
  refine pE_jump 1 (pc' := 27) (ls' := [none, none, none, none, none]) (st' := [.int 0]) (fun _ => rfl) ?_
  exact f_BP_want_27 sp d N 0 S _ h
def F_BP_want (N : Nat) (S : pm_S) (a : Nat) (p0 : Int32) (p1 : Int32) (p2 : Int32) : Option (Int32 × pm_S) :=
    if rcv S a 10 = true then
    ((F_BP_planAt N S a p0).bind fun (oq2, S1) => match oq2 with
    | none => F_BP_want_26 N S1
    | some q2 =>
    (F_Plan_setWanted N S1 q2 p1 p2).bind fun (v5, S4) =>
    if v5 = 0 then
    F_BP_want_26 N S4
    else
    F_BP_want_27 N 1 S4)
    else none
theorem g_BP_want {N : Nat} {S : pm_S} {a : Nat} {p0 : Int32} {p1 : Int32} {p2 : Int32} {r : (Int32 × pm_S)} (h : F_BP_want N S a p0 p1 p2 = some r) : rcv S a 10 = true := by
  unfold F_BP_want at h
  by_cases c : rcv S a 10 = true
  · exact c
  · rw [if_neg c] at h; cases h
set_option maxHeartbeats 4000000 in
set_option maxRecDepth 20000 in
theorem f_BP_want (sp : pm_I → List Value → pm_S → pm_O → Prop) (d N : Nat) (S : pm_S) (a : Nat) (p0 : Int32) (p1 : Int32) (p2 : Int32) (r : (Int32 × pm_S)) (h : F_BP_want N S a p0 p1 p2 = some r) : pm_rel pG sp (d + 5) mi_BP_want [.ref a, .int p0, .int p1, .int p2] S (some (.int r.1), r.2) := by
  have hg := g_BP_want h
  unfold F_BP_want at h
  rw [if_pos hg] at h
  refine pE_rel (d := d + 4) ?_
  show pmE pG _ mi_BP_want 0 [some (.ref a), some (.int p0), some (.int p1), some (.int p2), none] [] S _
  refine pE_jump 2 (pc' := 2) (ls' := [some (.ref a), some (.int p0), some (.int p1), some (.int p2), none]) (st' := [.int p0, .ref a]) (fun _ => rfl) ?_
  obtain ⟨⟨oq2, S1⟩, hq2, h⟩ := obind h
  try dsimp only at h
  cases oq2 with
  | none =>
    try dsimp only at h
    refine pE_iv (Bs := [.int p0]) (st := []) 1 rfl (Or.inl ⟨rfl, rfl⟩) rfl rfl (Nat.le_of_ble_eq_true rfl) (Nat.le_of_ble_eq_true rfl) (g_BP_planAt hq2) (f_BP_planAt sp (d + 3) N S a p0 _ hq2) ?_
    refine pE_jump 3 (pc' := 26) (ls' := [some (.ref a), some (.int p0), some (.int p1), some (.int p2), some (.null)]) (st' := []) (fun _ => rfl) ?_
    refine pE_weak [none, none, none, none, none] trivial ?_
    exact f_BP_want_26 sp d N S1 _ h
  | some q2 =>
    try dsimp only at h
    refine pE_iv (Bs := [.int p0]) (st := []) 1 rfl (Or.inl ⟨rfl, rfl⟩) rfl rfl (Nat.le_of_ble_eq_true rfl) (Nat.le_of_ble_eq_true rfl) (g_BP_planAt hq2) (f_BP_planAt sp (d + 3) N S a p0 _ hq2) ?_
    refine pE_jump 6 (pc' := 16) (ls' := [some (.ref a), some (.int p0), some (.int p1), some (.int p2), some (.ref q2)]) (st' := [.int p2, .int p1, .ref q2]) (fun _ => rfl) ?_
    obtain ⟨⟨v5, S4⟩, hv5, h⟩ := obind h
    try dsimp only at h
    refine pE_iv (Bs := [.int p1, .int p2]) (st := []) 1 rfl (Or.inl ⟨rfl, rfl⟩) rfl rfl (Nat.le_of_ble_eq_true rfl) (Nat.le_of_ble_eq_true rfl) (g_Plan_setWanted hv5) (f_Plan_setWanted sp d N S1 q2 p1 p2 _ hv5) ?_
    refine pE_br (v5 = 0) rfl rfl (fun c6 => ?_) (fun c6 => ?_)
    · rw [if_pos c6] at h
      refine pE_weak [none, none, none, none, none] trivial ?_
      exact f_BP_want_26 sp d N S4 _ h
    · rw [if_neg c6] at h
      refine pE_jump 2 (pc' := 27) (ls' := [some (.ref a), some (.int p0), some (.int p1), some (.int p2), some (.ref q2)]) (st' := [.int 1]) (fun _ => rfl) ?_
      refine pE_weak [none, none, none, none, none] trivial ?_
      exact f_BP_want_27 sp d N 1 S4 _ h
def F_Mover_freePairs_41 (N : Nat)  (x1 : Int32) (S : pm_S) : Option (Int32 × pm_S) :=
    some (x1, S)
set_option maxHeartbeats 4000000 in
set_option maxRecDepth 20000 in
theorem f_Mover_freePairs_41 (sp : pm_I → List Value → pm_S → pm_O → Prop) (d N : Nat)  (x1 : Int32) (S : pm_S)  (r : (Int32 × pm_S)) (h : F_Mover_freePairs_41 N  x1 S = some r) : pmE pG (pm_rel pG sp (d + 1)) mi_Mover_freePairs 41 [none, some (.int x1), none, none] [] S (some (.int r.1), r.2) := by
  unfold F_Mover_freePairs_41 at h
  refine pE_jump 1 (pc' := 42) (ls' := [none, some (.int x1), none, none]) (st' := [.int x1]) (fun _ => rfl) ?_
  cases h
  exact pE_ret rfl rfl rfl
def F_Mover_freePairs_35 (N : Nat) (rec7 : Int32 → Int32 → pm_S → Option (Int32 × pm_S)) (x0 : Nat) (x1 : Int32) (x2 : Int32) (S : pm_S) : Option (Int32 × pm_S) :=
    rec7 x1 (x2 + 1) S
set_option maxHeartbeats 4000000 in
set_option maxRecDepth 20000 in
theorem f_Mover_freePairs_35 (sp : pm_I → List Value → pm_S → pm_O → Prop) (d N : Nat) (rec7 : Int32 → Int32 → pm_S → Option (Int32 × pm_S)) (x0 : Nat) (x1 : Int32) (x2 : Int32) (S : pm_S) (hrec7 : ∀ (y1 : Int32) (y2 : Int32) (U : pm_S) (r : (Int32 × pm_S)), rec7 y1 y2 U = some r → pmE pG (pm_rel pG sp (d + 1)) mi_Mover_freePairs 7 [some (.ref x0), some (.int y1), some (.int y2), none] [] U (some (.int r.1), r.2)) (r : (Int32 × pm_S)) (h : F_Mover_freePairs_35 N rec7 x0 x1 x2 S = some r) : pmE pG (pm_rel pG sp (d + 1)) mi_Mover_freePairs 35 [some (.ref x0), some (.int x1), some (.int x2), none] [] S (some (.int r.1), r.2) := by
  unfold F_Mover_freePairs_35 at h
  refine pE_jump 2 (pc' := 7) (ls' := [some (.ref x0), some (.int x1), some (.int (x2 + 1)), none]) (st' := []) (fun _ => rfl) ?_
  exact hrec7 x1 (x2 + 1) S _ h
def B_Mover_freePairs_7 (N : Nat)  (rec7 : Int32 → Int32 → pm_S → Option (Int32 × pm_S)) (x0 : Nat) (x1 : Int32) (x2 : Int32) (S : pm_S) : Option (Int32 × pm_S) :=
    if 10 ≤ x2 then
    F_Mover_freePairs_41 N x1 S
    else
    ((oR S x0 3 0).bind fun oq2 => match oq2 with
    | none => none
    | some q2 =>
    (F_BP_valueAt N S q2 x2).bind fun (v4, S3) =>
    if v4 = (-1) then
    F_Mover_freePairs_35 N rec7 x0 x1 x2 S3
    else
    F_Mover_freePairs_35 N rec7 x0 (x1 &&& ((1 <<< (v4 &&& 31)) ^^^ (-1))) x2 S3)
def F_Mover_freePairs_7 (N : Nat)  (x0 : Nat) : Nat → Int32 → Int32 → pm_S → Option (Int32 × pm_S)
  | 0 => fun _ _ _ => none
  | n + 1 => fun x1 x2 S => B_Mover_freePairs_7 N  (F_Mover_freePairs_7 N  x0 n) x0 x1 x2 S
set_option maxHeartbeats 4000000 in
set_option maxRecDepth 20000 in
theorem f_Mover_freePairs_7 (sp : pm_I → List Value → pm_S → pm_O → Prop) (d N : Nat)  (x0 : Nat)  : ∀ (n : Nat) (x1 : Int32) (x2 : Int32) (S : pm_S) (r : (Int32 × pm_S)), F_Mover_freePairs_7 N  x0 n x1 x2 S = some r → pmE pG (pm_rel pG sp (d + 1)) mi_Mover_freePairs 7 [some (.ref x0), some (.int x1), some (.int x2), none] [] S (some (.int r.1), r.2) := by
  intro n
  induction n with
  | zero =>
    intro x1 x2 S r h
    cases h
  | succ n ih =>
    intro x1 x2 S r h
    replace h : B_Mover_freePairs_7 N  (F_Mover_freePairs_7 N  x0 n) x0 x1 x2 S = some r := h
    have hrec7 := ih
    generalize F_Mover_freePairs_7 N  x0 n = rec7 at h hrec7
    unfold B_Mover_freePairs_7 at h
    refine pE_jump 2 (pc' := 10) (ls' := [some (.ref x0), some (.int x1), some (.int x2), none]) (st' := [.int 10, .int x2]) (fun _ => rfl) ?_
    refine pE_br (10 ≤ x2) rfl rfl (fun c6 => ?_) (fun c6 => ?_)
    · rw [if_pos c6] at h
      refine pE_weak [none, some (.int x1), none, none] ⟨rfl, trivial⟩ ?_
      exact f_Mover_freePairs_41 sp d N x1 S _ h
    · rw [if_neg c6] at h
      refine pE_jump 1 (pc' := 14) (ls' := [some (.ref x0), some (.int x1), some (.int x2), none]) (st' := [.ref x0]) (fun _ => rfl) ?_
      obtain ⟨oq2, hq2, h⟩ := obind h
      cases oq2 with
      | none => cases h
      | some q2 =>
        try dsimp only at h
        refine pE_gfS rfl rfl hq2 ?_
        refine pE_jump 1 (pc' := 18) (ls' := [some (.ref x0), some (.int x1), some (.int x2), none]) (st' := [.int x2, .ref q2]) (fun _ => rfl) ?_
        obtain ⟨⟨v4, S3⟩, hv4, h⟩ := obind h
        try dsimp only at h
        refine pE_is (Bs := [.ref q2, .int x2]) (st := []) rfl rfl rfl (Nat.le_of_ble_eq_true rfl) (Nat.le_of_ble_eq_true rfl) (f_BP_valueAt sp d N S q2 x2 _ hv4) ?_
        refine pE_jump 3 (pc' := 24) (ls' := [some (.ref x0), some (.int x1), some (.int x2), some (.int v4)]) (st' := [.int (-1), .int v4]) (fun _ => rfl) ?_
        refine pE_br (v4 = (-1)) rfl rfl (fun c5 => ?_) (fun c5 => ?_)
        · rw [if_pos c5] at h
          refine pE_weak [some (.ref x0), some (.int x1), some (.int x2), none] ⟨rfl, ⟨rfl, ⟨rfl, trivial⟩⟩⟩ ?_
          exact f_Mover_freePairs_35 sp d N rec7 x0 x1 x2 S3 hrec7 _ h
        · rw [if_neg c5] at h
          refine pE_jump 8 (pc' := 35) (ls' := [some (.ref x0), some (.int (x1 &&& ((1 <<< (v4 &&& 31)) ^^^ (-1)))), some (.int x2), some (.int v4)]) (st' := []) (fun _ => rfl) ?_
          refine pE_weak [some (.ref x0), some (.int (x1 &&& ((1 <<< (v4 &&& 31)) ^^^ (-1)))), some (.int x2), none] ⟨rfl, ⟨rfl, ⟨rfl, trivial⟩⟩⟩ ?_
          exact f_Mover_freePairs_35 sp d N rec7 x0 (x1 &&& ((1 <<< (v4 &&& 31)) ^^^ (-1))) x2 S3 hrec7 _ h
def F_Mover_freePairs (N : Nat) (S : pm_S) (a : Nat) : Option (Int32 × pm_S) :=
    if rcv S a 3 = true then
    ((oI S a 3 3).bind fun v1 =>
    F_Mover_freePairs_7 N a N v1 0 S)
    else none
theorem g_Mover_freePairs {N : Nat} {S : pm_S} {a : Nat} {r : (Int32 × pm_S)} (h : F_Mover_freePairs N S a = some r) : rcv S a 3 = true := by
  unfold F_Mover_freePairs at h
  by_cases c : rcv S a 3 = true
  · exact c
  · rw [if_neg c] at h; cases h
set_option maxHeartbeats 4000000 in
set_option maxRecDepth 20000 in
theorem f_Mover_freePairs (sp : pm_I → List Value → pm_S → pm_O → Prop) (d N : Nat) (S : pm_S) (a : Nat) (r : (Int32 × pm_S)) (h : F_Mover_freePairs N S a = some r) : pm_rel pG sp (d + 2) mi_Mover_freePairs [.ref a] S (some (.int r.1), r.2) := by
  have hg := g_Mover_freePairs h
  unfold F_Mover_freePairs at h
  rw [if_pos hg] at h
  refine pE_rel (d := d + 1) ?_
  show pmE pG _ mi_Mover_freePairs 0 [some (.ref a), none, none, none] [] S _
  refine pE_jump 1 (pc' := 1) (ls' := [some (.ref a), none, none, none]) (st' := [.ref a]) (fun _ => rfl) ?_
  obtain ⟨v1, hv1, h⟩ := obind h
  refine pE_gfI rfl rfl hv1 ?_
  refine pE_jump 3 (pc' := 7) (ls' := [some (.ref a), some (.int v1), some (.int 0), none]) (st' := []) (fun _ => rfl) ?_
  exact f_Mover_freePairs_7 sp d N a N v1 0 S _ h
def F_Mover_isAstray_38 (N : Nat)  (t0 : Int32) (S : pm_S) : Option (Int32 × pm_S) :=
    if t0 = 0 ∨ t0 = 1 then some (t0, S) else none
set_option maxHeartbeats 4000000 in
set_option maxRecDepth 20000 in
theorem f_Mover_isAstray_38 (sp : pm_I → List Value → pm_S → pm_O → Prop) (d N : Nat)  (t0 : Int32) (S : pm_S)  (r : (Int32 × pm_S)) (h : F_Mover_isAstray_38 N  t0 S = some r) : pmE pG (pm_rel pG sp (d + 1)) mi_Mover_isAstray 38 [none, none, none, none] [.int t0] S (some (.int r.1), r.2) := by
  unfold F_Mover_isAstray_38 at h
  by_cases c7 : t0 = 0 ∨ t0 = 1
  · rw [if_pos c7] at h
    cases h
    exact pE_ret rfl (if_pos c7) rfl
  · rw [if_neg c7] at h
    cases h
def F_Mover_isAstray_37 (N : Nat)   (S : pm_S) : Option (Int32 × pm_S) :=
    F_Mover_isAstray_38 N 0 S
set_option maxHeartbeats 4000000 in
set_option maxRecDepth 20000 in
theorem f_Mover_isAstray_37 (sp : pm_I → List Value → pm_S → pm_O → Prop) (d N : Nat)   (S : pm_S)  (r : (Int32 × pm_S)) (h : F_Mover_isAstray_37 N   S = some r) : pmE pG (pm_rel pG sp (d + 1)) mi_Mover_isAstray 37 [none, none, none, none] [] S (some (.int r.1), r.2) := by
  unfold F_Mover_isAstray_37 at h
  refine pE_jump 1 (pc' := 38) (ls' := [none, none, none, none]) (st' := [.int 0]) (fun _ => rfl) ?_
  exact f_Mover_isAstray_38 sp d N 0 S _ h
def F_Mover_isAstray (N : Nat) (S : pm_S) (a : Nat) (p0 : Int32) : Option (Int32 × pm_S) :=
    if rcv S a 3 = true then
    ((oR S a 3 0).bind fun oq1 => match oq1 with
    | none => none
    | some q1 =>
    (F_BP_valueAt N S q1 p0).bind fun (v3, S2) =>
    (oR S2 a 3 1).bind fun oq4 => match oq4 with
    | none => none
    | some q4 =>
    (F_BP_valueAt N S2 q4 p0).bind fun (v6, S5) =>
    if v3 = (-1) then
    F_Mover_isAstray_37 N S5
    else
    (if v6 = (-1) then
    F_Mover_isAstray_37 N S5
    else
    (if v3 = v6 then
    F_Mover_isAstray_37 N S5
    else
    F_Mover_isAstray_38 N 1 S5)))
    else none
theorem g_Mover_isAstray {N : Nat} {S : pm_S} {a : Nat} {p0 : Int32} {r : (Int32 × pm_S)} (h : F_Mover_isAstray N S a p0 = some r) : rcv S a 3 = true := by
  unfold F_Mover_isAstray at h
  by_cases c : rcv S a 3 = true
  · exact c
  · rw [if_neg c] at h; cases h
set_option maxHeartbeats 4000000 in
set_option maxRecDepth 20000 in
theorem f_Mover_isAstray (sp : pm_I → List Value → pm_S → pm_O → Prop) (d N : Nat) (S : pm_S) (a : Nat) (p0 : Int32) (r : (Int32 × pm_S)) (h : F_Mover_isAstray N S a p0 = some r) : pm_rel pG sp (d + 2) mi_Mover_isAstray [.ref a, .int p0] S (some (.int r.1), r.2) := by
  have hg := g_Mover_isAstray h
  unfold F_Mover_isAstray at h
  rw [if_pos hg] at h
  refine pE_rel (d := d + 1) ?_
  show pmE pG _ mi_Mover_isAstray 0 [some (.ref a), some (.int p0), none, none] [] S _
  refine pE_jump 1 (pc' := 1) (ls' := [some (.ref a), some (.int p0), none, none]) (st' := [.ref a]) (fun _ => rfl) ?_
  obtain ⟨oq1, hq1, h⟩ := obind h
  cases oq1 with
  | none => cases h
  | some q1 =>
    try dsimp only at h
    refine pE_gfS rfl rfl hq1 ?_
    refine pE_jump 1 (pc' := 5) (ls' := [some (.ref a), some (.int p0), none, none]) (st' := [.int p0, .ref q1]) (fun _ => rfl) ?_
    obtain ⟨⟨v3, S2⟩, hv3, h⟩ := obind h
    try dsimp only at h
    refine pE_is (Bs := [.ref q1, .int p0]) (st := []) rfl rfl rfl (Nat.le_of_ble_eq_true rfl) (Nat.le_of_ble_eq_true rfl) (f_BP_valueAt sp d N S q1 p0 _ hv3) ?_
    refine pE_jump 2 (pc' := 10) (ls' := [some (.ref a), some (.int p0), some (.int v3), none]) (st' := [.ref a]) (fun _ => rfl) ?_
    obtain ⟨oq4, hq4, h⟩ := obind h
    cases oq4 with
    | none => cases h
    | some q4 =>
      try dsimp only at h
      refine pE_gfS rfl rfl hq4 ?_
      refine pE_jump 1 (pc' := 14) (ls' := [some (.ref a), some (.int p0), some (.int v3), none]) (st' := [.int p0, .ref q4]) (fun _ => rfl) ?_
      obtain ⟨⟨v6, S5⟩, hv6, h⟩ := obind h
      try dsimp only at h
      refine pE_is (Bs := [.ref q4, .int p0]) (st := []) rfl rfl rfl (Nat.le_of_ble_eq_true rfl) (Nat.le_of_ble_eq_true rfl) (f_BP_valueAt sp d N S2 q4 p0 _ hv6) ?_
      refine pE_jump 3 (pc' := 20) (ls' := [some (.ref a), some (.int p0), some (.int v3), some (.int v6)]) (st' := [.int (-1), .int v3]) (fun _ => rfl) ?_
      refine pE_br (v3 = (-1)) rfl rfl (fun c10 => ?_) (fun c10 => ?_)
      · rw [if_pos c10] at h
        refine pE_weak [none, none, none, none] trivial ?_
        exact f_Mover_isAstray_37 sp d N S5 _ h
      · rw [if_neg c10] at h
        refine pE_jump 2 (pc' := 25) (ls' := [some (.ref a), some (.int p0), some (.int v3), some (.int v6)]) (st' := [.int (-1), .int v6]) (fun _ => rfl) ?_
        refine pE_br (v6 = (-1)) rfl rfl (fun c9 => ?_) (fun c9 => ?_)
        · rw [if_pos c9] at h
          refine pE_weak [none, none, none, none] trivial ?_
          exact f_Mover_isAstray_37 sp d N S5 _ h
        · rw [if_neg c9] at h
          refine pE_jump 2 (pc' := 30) (ls' := [some (.ref a), some (.int p0), some (.int v3), some (.int v6)]) (st' := [.int v6, .int v3]) (fun _ => rfl) ?_
          refine pE_br (v3 = v6) rfl rfl (fun c8 => ?_) (fun c8 => ?_)
          · rw [if_pos c8] at h
            refine pE_weak [none, none, none, none] trivial ?_
            exact f_Mover_isAstray_37 sp d N S5 _ h
          · rw [if_neg c8] at h
            refine pE_jump 2 (pc' := 38) (ls' := [some (.ref a), some (.int p0), some (.int v3), some (.int v6)]) (st' := [.int 1]) (fun _ => rfl) ?_
            refine pE_weak [none, none, none, none] trivial ?_
            exact f_Mover_isAstray_38 sp d N 1 S5 _ h
def F_Mover_move_39 (N : Nat)  (x0 : Nat) (x1 : Int32) (x2 : Int32) (S : pm_S) : Option pm_S :=
    (oR S x0 3 0).bind fun oq4 => match oq4 with
    | none => none
    | some q4 =>
    (F_BP_setAt N S q4 x1 x2).bind fun S5 =>
    some S5
set_option maxHeartbeats 4000000 in
set_option maxRecDepth 20000 in
theorem f_Mover_move_39 (sp : pm_I → List Value → pm_S → pm_O → Prop) (d N : Nat)  (x0 : Nat) (x1 : Int32) (x2 : Int32) (S : pm_S)  (r : pm_S) (h : F_Mover_move_39 N  x0 x1 x2 S = some r) : pmE pG (pm_rel pG sp (d + 1)) mi_Mover_move 39 [some (.ref x0), some (.int x1), some (.int x2)] [] S (none, r) := by
  unfold F_Mover_move_39 at h
  refine pE_jump 1 (pc' := 40) (ls' := [some (.ref x0), some (.int x1), some (.int x2)]) (st' := [.ref x0]) (fun _ => rfl) ?_
  obtain ⟨oq4, hq4, h⟩ := obind h
  cases oq4 with
  | none => cases h
  | some q4 =>
    try dsimp only at h
    refine pE_gfS rfl rfl hq4 ?_
    refine pE_jump 2 (pc' := 45) (ls' := [some (.ref x0), some (.int x1), some (.int x2)]) (st' := [.int x2, .int x1, .ref q4]) (fun _ => rfl) ?_
    obtain ⟨S5, hS5, h⟩ := obind h
    refine pE_is (Bs := [.ref q4, .int x1, .int x2]) (st := []) rfl rfl rfl (Nat.le_of_ble_eq_true rfl) (Nat.le_of_ble_eq_true rfl) (f_BP_setAt sp d N S q4 x1 x2 _ hS5) ?_
    cases h
    exact pE_ret rfl rfl rfl
def F_Mover_move (N : Nat) (S : pm_S) (a : Nat) (p0 : Int32) (p1 : Int32) : Option pm_S :=
    if rcv S a 3 = true then
    ((oI S a 3 5).bind fun v1 =>
    (oR S a 3 2).bind fun oq2 => match oq2 with
    | none => none
    | some q2 =>
    (aNS S q2).bind fun v3 =>
    if v3 ≤ v1 then
    F_Mover_move_39 N a p0 p1 S
    else
    ((oR S a 3 2).bind fun oq6 => match oq6 with
    | none => none
    | some q6 =>
    (oI S a 3 5).bind fun v8 =>
    (F_BP_setAt N S q6 v8 ((8 * p0) + p1)).bind fun S9 =>
    (oI S9 a 3 5).bind fun v10 =>
    (wF S9 a 3 5 .int (.int (v10 + 1))).bind fun S11 =>
    F_Mover_move_39 N a p0 p1 S11))
    else none
theorem g_Mover_move {N : Nat} {S : pm_S} {a : Nat} {p0 : Int32} {p1 : Int32} {r : pm_S} (h : F_Mover_move N S a p0 p1 = some r) : rcv S a 3 = true := by
  unfold F_Mover_move at h
  by_cases c : rcv S a 3 = true
  · exact c
  · rw [if_neg c] at h; cases h
set_option maxHeartbeats 4000000 in
set_option maxRecDepth 20000 in
theorem f_Mover_move (sp : pm_I → List Value → pm_S → pm_O → Prop) (d N : Nat) (S : pm_S) (a : Nat) (p0 : Int32) (p1 : Int32) (r : pm_S) (h : F_Mover_move N S a p0 p1 = some r) : pm_rel pG sp (d + 2) mi_Mover_move [.ref a, .int p0, .int p1] S (none, r) := by
  have hg := g_Mover_move h
  unfold F_Mover_move at h
  rw [if_pos hg] at h
  refine pE_rel (d := d + 1) ?_
  show pmE pG _ mi_Mover_move 0 [some (.ref a), some (.int p0), some (.int p1)] [] S _
  refine pE_jump 1 (pc' := 1) (ls' := [some (.ref a), some (.int p0), some (.int p1)]) (st' := [.ref a]) (fun _ => rfl) ?_
  obtain ⟨v1, hv1, h⟩ := obind h
  refine pE_gfI rfl rfl hv1 ?_
  refine pE_jump 1 (pc' := 5) (ls' := [some (.ref a), some (.int p0), some (.int p1)]) (st' := [.ref a, .int v1]) (fun _ => rfl) ?_
  obtain ⟨oq2, hq2, h⟩ := obind h
  cases oq2 with
  | none => cases h
  | some q2 =>
    try dsimp only at h
    refine pE_gfS rfl rfl hq2 ?_
    obtain ⟨v3, hv3, h⟩ := obind h
    refine pE_aN rfl hv3 ?_
    refine pE_br (v3 ≤ v1) rfl rfl (fun c12 => ?_) (fun c12 => ?_)
    · rw [if_pos c12] at h
      exact f_Mover_move_39 sp d N a p0 p1 S _ h
    · rw [if_neg c12] at h
      refine pE_jump 1 (pc' := 13) (ls' := [some (.ref a), some (.int p0), some (.int p1)]) (st' := [.ref a]) (fun _ => rfl) ?_
      obtain ⟨oq6, hq6, h⟩ := obind h
      cases oq6 with
      | none => cases h
      | some q6 =>
        try dsimp only at h
        refine pE_gfS rfl rfl hq6 ?_
        refine pE_jump 1 (pc' := 17) (ls' := [some (.ref a), some (.int p0), some (.int p1)]) (st' := [.ref a, .ref q6]) (fun _ => rfl) ?_
        obtain ⟨v8, hv8, h⟩ := obind h
        refine pE_gfI rfl rfl hv8 ?_
        refine pE_jump 5 (pc' := 26) (ls' := [some (.ref a), some (.int p0), some (.int p1)]) (st' := [.int ((8 * p0) + p1), .int v8, .ref q6]) (fun _ => rfl) ?_
        obtain ⟨S9, hS9, h⟩ := obind h
        refine pE_is (Bs := [.ref q6, .int v8, .int ((8 * p0) + p1)]) (st := []) rfl rfl rfl (Nat.le_of_ble_eq_true rfl) (Nat.le_of_ble_eq_true rfl) (f_BP_setAt sp d N S q6 v8 ((8 * p0) + p1) _ hS9) ?_
        refine pE_jump 2 (pc' := 31) (ls' := [some (.ref a), some (.int p0), some (.int p1)]) (st' := [.ref a, .ref a]) (fun _ => rfl) ?_
        obtain ⟨v10, hv10, h⟩ := obind h
        refine pE_gfI rfl rfl hv10 ?_
        refine pE_jump 2 (pc' := 36) (ls' := [some (.ref a), some (.int p0), some (.int p1)]) (st' := [.int (v10 + 1), .ref a]) (fun _ => rfl) ?_
        obtain ⟨S11, hS11, h⟩ := obind h
        refine pE_pf rfl rfl rfl hS11 ?_
        exact f_Mover_move_39 sp d N a p0 p1 S11 _ h
def F_Mover_moveHome_52 (N : Nat)   (S : pm_S) : Option (Int32 × pm_S) :=
    some (0, S)
set_option maxHeartbeats 4000000 in
set_option maxRecDepth 20000 in
theorem f_Mover_moveHome_52 (sp : pm_I → List Value → pm_S → pm_O → Prop) (d N : Nat)   (S : pm_S)  (r : (Int32 × pm_S)) (h : F_Mover_moveHome_52 N   S = some r) : pmE pG (pm_rel pG sp (d + 2)) mi_Mover_moveHome 52 [none, none, none, none] [] S (some (.int r.1), r.2) := by
  unfold F_Mover_moveHome_52 at h
  refine pE_jump 1 (pc' := 53) (ls' := [none, none, none, none]) (st' := [.int 0]) (fun _ => rfl) ?_
  cases h
  exact pE_ret rfl rfl rfl
def F_Mover_moveHome_46 (N : Nat) (rec7 : Int32 → pm_S → Option (Int32 × pm_S)) (x0 : Nat) (x1 : Int32) (x2 : Int32) (S : pm_S) : Option (Int32 × pm_S) :=
    rec7 (x2 + 1) S
set_option maxHeartbeats 4000000 in
set_option maxRecDepth 20000 in
theorem f_Mover_moveHome_46 (sp : pm_I → List Value → pm_S → pm_O → Prop) (d N : Nat) (rec7 : Int32 → pm_S → Option (Int32 × pm_S)) (x0 : Nat) (x1 : Int32) (x2 : Int32) (S : pm_S) (hrec7 : ∀ (y1 : Int32) (U : pm_S) (r : (Int32 × pm_S)), rec7 y1 U = some r → pmE pG (pm_rel pG sp (d + 2)) mi_Mover_moveHome 7 [some (.ref x0), some (.int x1), some (.int y1), none] [] U (some (.int r.1), r.2)) (r : (Int32 × pm_S)) (h : F_Mover_moveHome_46 N rec7 x0 x1 x2 S = some r) : pmE pG (pm_rel pG sp (d + 2)) mi_Mover_moveHome 46 [some (.ref x0), some (.int x1), some (.int x2), none] [] S (some (.int r.1), r.2) := by
  unfold F_Mover_moveHome_46 at h
  refine pE_jump 2 (pc' := 7) (ls' := [some (.ref x0), some (.int x1), some (.int (x2 + 1)), none]) (st' := []) (fun _ => rfl) ?_
  exact hrec7 (x2 + 1) S _ h
def F_Mover_moveHome_38 (N : Nat)  (x0 : Nat) (x2 : Int32) (x3 : Int32) (S : pm_S) : Option (Int32 × pm_S) :=
    (F_Mover_move N S x0 x2 x3).bind fun S8 =>
    some (1, S8)
set_option maxHeartbeats 4000000 in
set_option maxRecDepth 20000 in
theorem f_Mover_moveHome_38 (sp : pm_I → List Value → pm_S → pm_O → Prop) (d N : Nat)  (x0 : Nat) (x2 : Int32) (x3 : Int32) (S : pm_S)  (r : (Int32 × pm_S)) (h : F_Mover_moveHome_38 N  x0 x2 x3 S = some r) : pmE pG (pm_rel pG sp (d + 2)) mi_Mover_moveHome 38 [some (.ref x0), none, some (.int x2), some (.int x3)] [] S (some (.int r.1), r.2) := by
  unfold F_Mover_moveHome_38 at h
  refine pE_jump 3 (pc' := 41) (ls' := [some (.ref x0), none, some (.int x2), some (.int x3)]) (st' := [.int x3, .int x2, .ref x0]) (fun _ => rfl) ?_
  obtain ⟨S8, hS8, h⟩ := obind h
  refine pE_iv (Bs := [.int x2, .int x3]) (st := []) 1 rfl (Or.inl ⟨rfl, rfl⟩) rfl rfl (Nat.le_of_ble_eq_true rfl) (Nat.le_of_ble_eq_true rfl) (g_Mover_move hS8) (f_Mover_move sp d N S x0 x2 x3 _ hS8) ?_
  refine pE_jump 1 (pc' := 45) (ls' := [some (.ref x0), none, some (.int x2), some (.int x3)]) (st' := [.int 1]) (fun _ => rfl) ?_
  cases h
  exact pE_ret rfl rfl rfl
def B_Mover_moveHome_7 (N : Nat)  (rec7 : Int32 → pm_S → Option (Int32 × pm_S)) (x0 : Nat) (x1 : Int32) (x2 : Int32) (S : pm_S) : Option (Int32 × pm_S) :=
    if 10 ≤ x2 then
    F_Mover_moveHome_52 N S
    else
    ((oR S x0 3 1).bind fun oq3 => match oq3 with
    | none => none
    | some q3 =>
    (F_BP_valueAt N S q3 x2).bind fun (v5, S4) =>
    (F_Mover_isAstray N S4 x0 x2).bind fun (v7, S6) =>
    if v7 = 0 then
    F_Mover_moveHome_46 N rec7 x0 x1 x2 S6
    else
    (if ((x1 >>> (v5 &&& 31)) &&& 1) = 0 then
    F_Mover_moveHome_46 N rec7 x0 x1 x2 S6
    else
    F_Mover_moveHome_38 N x0 x2 v5 S6))
def F_Mover_moveHome_7 (N : Nat)  (x0 : Nat) (x1 : Int32) : Nat → Int32 → pm_S → Option (Int32 × pm_S)
  | 0 => fun _ _ => none
  | n + 1 => fun x2 S => B_Mover_moveHome_7 N  (F_Mover_moveHome_7 N  x0 x1 n) x0 x1 x2 S
set_option maxHeartbeats 4000000 in
set_option maxRecDepth 20000 in
theorem f_Mover_moveHome_7 (sp : pm_I → List Value → pm_S → pm_O → Prop) (d N : Nat)  (x0 : Nat) (x1 : Int32)  : ∀ (n : Nat) (x2 : Int32) (S : pm_S) (r : (Int32 × pm_S)), F_Mover_moveHome_7 N  x0 x1 n x2 S = some r → pmE pG (pm_rel pG sp (d + 2)) mi_Mover_moveHome 7 [some (.ref x0), some (.int x1), some (.int x2), none] [] S (some (.int r.1), r.2) := by
  intro n
  induction n with
  | zero =>
    intro x2 S r h
    cases h
  | succ n ih =>
    intro x2 S r h
    replace h : B_Mover_moveHome_7 N  (F_Mover_moveHome_7 N  x0 x1 n) x0 x1 x2 S = some r := h
    have hrec7 := ih
    generalize F_Mover_moveHome_7 N  x0 x1 n = rec7 at h hrec7
    unfold B_Mover_moveHome_7 at h
    refine pE_jump 2 (pc' := 10) (ls' := [some (.ref x0), some (.int x1), some (.int x2), none]) (st' := [.int 10, .int x2]) (fun _ => rfl) ?_
    refine pE_br (10 ≤ x2) rfl rfl (fun c11 => ?_) (fun c11 => ?_)
    · rw [if_pos c11] at h
      refine pE_weak [none, none, none, none] trivial ?_
      exact f_Mover_moveHome_52 sp d N S _ h
    · rw [if_neg c11] at h
      refine pE_jump 1 (pc' := 14) (ls' := [some (.ref x0), some (.int x1), some (.int x2), none]) (st' := [.ref x0]) (fun _ => rfl) ?_
      obtain ⟨oq3, hq3, h⟩ := obind h
      cases oq3 with
      | none => cases h
      | some q3 =>
        try dsimp only at h
        refine pE_gfS rfl rfl hq3 ?_
        refine pE_jump 1 (pc' := 18) (ls' := [some (.ref x0), some (.int x1), some (.int x2), none]) (st' := [.int x2, .ref q3]) (fun _ => rfl) ?_
        obtain ⟨⟨v5, S4⟩, hv5, h⟩ := obind h
        try dsimp only at h
        refine pE_is (Bs := [.ref q3, .int x2]) (st := []) rfl rfl rfl (Nat.le_of_ble_eq_true rfl) (Nat.le_of_ble_eq_true rfl) (f_BP_valueAt sp (d + 1) N S q3 x2 _ hv5) ?_
        refine pE_jump 3 (pc' := 24) (ls' := [some (.ref x0), some (.int x1), some (.int x2), some (.int v5)]) (st' := [.int x2, .ref x0]) (fun _ => rfl) ?_
        obtain ⟨⟨v7, S6⟩, hv7, h⟩ := obind h
        try dsimp only at h
        refine pE_iv (Bs := [.int x2]) (st := []) 1 rfl (Or.inl ⟨rfl, rfl⟩) rfl rfl (Nat.le_of_ble_eq_true rfl) (Nat.le_of_ble_eq_true rfl) (g_Mover_isAstray hv7) (f_Mover_isAstray sp d N S4 x0 x2 _ hv7) ?_
        refine pE_br (v7 = 0) rfl rfl (fun c10 => ?_) (fun c10 => ?_)
        · rw [if_pos c10] at h
          refine pE_weak [some (.ref x0), some (.int x1), some (.int x2), none] ⟨rfl, ⟨rfl, ⟨rfl, trivial⟩⟩⟩ ?_
          exact f_Mover_moveHome_46 sp d N rec7 x0 x1 x2 S6 hrec7 _ h
        · rw [if_neg c10] at h
          refine pE_jump 5 (pc' := 35) (ls' := [some (.ref x0), some (.int x1), some (.int x2), some (.int v5)]) (st' := [.int ((x1 >>> (v5 &&& 31)) &&& 1)]) (fun _ => rfl) ?_
          refine pE_br (((x1 >>> (v5 &&& 31)) &&& 1) = 0) rfl rfl (fun c9 => ?_) (fun c9 => ?_)
          · rw [if_pos c9] at h
            refine pE_weak [some (.ref x0), some (.int x1), some (.int x2), none] ⟨rfl, ⟨rfl, ⟨rfl, trivial⟩⟩⟩ ?_
            exact f_Mover_moveHome_46 sp d N rec7 x0 x1 x2 S6 hrec7 _ h
          · rw [if_neg c9] at h
            refine pE_weak [some (.ref x0), none, some (.int x2), some (.int v5)] ⟨rfl, ⟨rfl, ⟨rfl, trivial⟩⟩⟩ ?_
            exact f_Mover_moveHome_38 sp d N x0 x2 v5 S6 _ h
def F_Mover_moveHome (N : Nat) (S : pm_S) (a : Nat) : Option (Int32 × pm_S) :=
    if rcv S a 3 = true then
    ((F_Mover_freePairs N S a).bind fun (v2, S1) =>
    F_Mover_moveHome_7 N a v2 N 0 S1)
    else none
theorem g_Mover_moveHome {N : Nat} {S : pm_S} {a : Nat} {r : (Int32 × pm_S)} (h : F_Mover_moveHome N S a = some r) : rcv S a 3 = true := by
  unfold F_Mover_moveHome at h
  by_cases c : rcv S a 3 = true
  · exact c
  · rw [if_neg c] at h; cases h
set_option maxHeartbeats 4000000 in
set_option maxRecDepth 20000 in
theorem f_Mover_moveHome (sp : pm_I → List Value → pm_S → pm_O → Prop) (d N : Nat) (S : pm_S) (a : Nat) (r : (Int32 × pm_S)) (h : F_Mover_moveHome N S a = some r) : pm_rel pG sp (d + 3) mi_Mover_moveHome [.ref a] S (some (.int r.1), r.2) := by
  have hg := g_Mover_moveHome h
  unfold F_Mover_moveHome at h
  rw [if_pos hg] at h
  refine pE_rel (d := d + 2) ?_
  show pmE pG _ mi_Mover_moveHome 0 [some (.ref a), none, none, none] [] S _
  refine pE_jump 1 (pc' := 1) (ls' := [some (.ref a), none, none, none]) (st' := [.ref a]) (fun _ => rfl) ?_
  obtain ⟨⟨v2, S1⟩, hv2, h⟩ := obind h
  try dsimp only at h
  refine pE_iv (Bs := []) (st := []) 1 rfl (Or.inl ⟨rfl, rfl⟩) rfl rfl (Nat.le_of_ble_eq_true rfl) (Nat.le_of_ble_eq_true rfl) (g_Mover_freePairs hv2) (f_Mover_freePairs sp d N S a _ hv2) ?_
  refine pE_jump 3 (pc' := 7) (ls' := [some (.ref a), some (.int v2), some (.int 0), none]) (st' := []) (fun _ => rfl) ?_
  exact f_Mover_moveHome_7 sp d N a v2 N 0 S1 _ h
def F_Mover_houseOn_33 (N : Nat)   (S : pm_S) : Option (Int32 × pm_S) :=
    some ((-1), S)
set_option maxHeartbeats 4000000 in
set_option maxRecDepth 20000 in
theorem f_Mover_houseOn_33 (sp : pm_I → List Value → pm_S → pm_O → Prop) (d N : Nat)   (S : pm_S)  (r : (Int32 × pm_S)) (h : F_Mover_houseOn_33 N   S = some r) : pmE pG (pm_rel pG sp (d + 1)) mi_Mover_houseOn 33 [none, none, none] [] S (some (.int r.1), r.2) := by
  unfold F_Mover_houseOn_33 at h
  refine pE_jump 1 (pc' := 34) (ls' := [none, none, none]) (st' := [.int (-1)]) (fun _ => rfl) ?_
  cases h
  exact pE_ret rfl rfl rfl
def F_Mover_houseOn_27 (N : Nat) (rec2 : Int32 → pm_S → Option (Int32 × pm_S)) (x0 : Nat) (x1 : Int32) (x2 : Int32) (S : pm_S) : Option (Int32 × pm_S) :=
    rec2 (x2 + 1) S
set_option maxHeartbeats 4000000 in
set_option maxRecDepth 20000 in
theorem f_Mover_houseOn_27 (sp : pm_I → List Value → pm_S → pm_O → Prop) (d N : Nat) (rec2 : Int32 → pm_S → Option (Int32 × pm_S)) (x0 : Nat) (x1 : Int32) (x2 : Int32) (S : pm_S) (hrec2 : ∀ (y1 : Int32) (U : pm_S) (r : (Int32 × pm_S)), rec2 y1 U = some r → pmE pG (pm_rel pG sp (d + 1)) mi_Mover_houseOn 2 [some (.ref x0), some (.int x1), some (.int y1)] [] U (some (.int r.1), r.2)) (r : (Int32 × pm_S)) (h : F_Mover_houseOn_27 N rec2 x0 x1 x2 S = some r) : pmE pG (pm_rel pG sp (d + 1)) mi_Mover_houseOn 27 [some (.ref x0), some (.int x1), some (.int x2)] [] S (some (.int r.1), r.2) := by
  unfold F_Mover_houseOn_27 at h
  refine pE_jump 2 (pc' := 2) (ls' := [some (.ref x0), some (.int x1), some (.int (x2 + 1))]) (st' := []) (fun _ => rfl) ?_
  exact hrec2 (x2 + 1) S _ h
def F_Mover_houseOn_25 (N : Nat)  (x2 : Int32) (S : pm_S) : Option (Int32 × pm_S) :=
    some (x2, S)
set_option maxHeartbeats 4000000 in
set_option maxRecDepth 20000 in
theorem f_Mover_houseOn_25 (sp : pm_I → List Value → pm_S → pm_O → Prop) (d N : Nat)  (x2 : Int32) (S : pm_S)  (r : (Int32 × pm_S)) (h : F_Mover_houseOn_25 N  x2 S = some r) : pmE pG (pm_rel pG sp (d + 1)) mi_Mover_houseOn 25 [none, none, some (.int x2)] [] S (some (.int r.1), r.2) := by
  unfold F_Mover_houseOn_25 at h
  refine pE_jump 1 (pc' := 26) (ls' := [none, none, some (.int x2)]) (st' := [.int x2]) (fun _ => rfl) ?_
  cases h
  exact pE_ret rfl rfl rfl
def B_Mover_houseOn_2 (N : Nat)  (rec2 : Int32 → pm_S → Option (Int32 × pm_S)) (x0 : Nat) (x1 : Int32) (x2 : Int32) (S : pm_S) : Option (Int32 × pm_S) :=
    if 10 ≤ x2 then
    F_Mover_houseOn_33 N S
    else
    (if x1 = (-1) then
    F_Mover_houseOn_27 N rec2 x0 x1 x2 S
    else
    ((oR S x0 3 0).bind fun oq1 => match oq1 with
    | none => none
    | some q1 =>
    (F_BP_valueAt N S q1 x2).bind fun (v3, S2) =>
    if v3 = x1 then
    F_Mover_houseOn_25 N x2 S2
    else
    F_Mover_houseOn_27 N rec2 x0 x1 x2 S2))
def F_Mover_houseOn_2 (N : Nat)  (x0 : Nat) (x1 : Int32) : Nat → Int32 → pm_S → Option (Int32 × pm_S)
  | 0 => fun _ _ => none
  | n + 1 => fun x2 S => B_Mover_houseOn_2 N  (F_Mover_houseOn_2 N  x0 x1 n) x0 x1 x2 S
set_option maxHeartbeats 4000000 in
set_option maxRecDepth 20000 in
theorem f_Mover_houseOn_2 (sp : pm_I → List Value → pm_S → pm_O → Prop) (d N : Nat)  (x0 : Nat) (x1 : Int32)  : ∀ (n : Nat) (x2 : Int32) (S : pm_S) (r : (Int32 × pm_S)), F_Mover_houseOn_2 N  x0 x1 n x2 S = some r → pmE pG (pm_rel pG sp (d + 1)) mi_Mover_houseOn 2 [some (.ref x0), some (.int x1), some (.int x2)] [] S (some (.int r.1), r.2) := by
  intro n
  induction n with
  | zero =>
    intro x2 S r h
    cases h
  | succ n ih =>
    intro x2 S r h
    replace h : B_Mover_houseOn_2 N  (F_Mover_houseOn_2 N  x0 x1 n) x0 x1 x2 S = some r := h
    have hrec2 := ih
    generalize F_Mover_houseOn_2 N  x0 x1 n = rec2 at h hrec2
    unfold B_Mover_houseOn_2 at h
    refine pE_jump 2 (pc' := 5) (ls' := [some (.ref x0), some (.int x1), some (.int x2)]) (st' := [.int 10, .int x2]) (fun _ => rfl) ?_
    refine pE_br (10 ≤ x2) rfl rfl (fun c6 => ?_) (fun c6 => ?_)
    · rw [if_pos c6] at h
      refine pE_weak [none, none, none] trivial ?_
      exact f_Mover_houseOn_33 sp d N S _ h
    · rw [if_neg c6] at h
      refine pE_jump 2 (pc' := 10) (ls' := [some (.ref x0), some (.int x1), some (.int x2)]) (st' := [.int (-1), .int x1]) (fun _ => rfl) ?_
      refine pE_br (x1 = (-1)) rfl rfl (fun c5 => ?_) (fun c5 => ?_)
      · rw [if_pos c5] at h
        exact f_Mover_houseOn_27 sp d N rec2 x0 x1 x2 S hrec2 _ h
      · rw [if_neg c5] at h
        refine pE_jump 1 (pc' := 14) (ls' := [some (.ref x0), some (.int x1), some (.int x2)]) (st' := [.ref x0]) (fun _ => rfl) ?_
        obtain ⟨oq1, hq1, h⟩ := obind h
        cases oq1 with
        | none => cases h
        | some q1 =>
          try dsimp only at h
          refine pE_gfS rfl rfl hq1 ?_
          refine pE_jump 1 (pc' := 18) (ls' := [some (.ref x0), some (.int x1), some (.int x2)]) (st' := [.int x2, .ref q1]) (fun _ => rfl) ?_
          obtain ⟨⟨v3, S2⟩, hv3, h⟩ := obind h
          try dsimp only at h
          refine pE_is (Bs := [.ref q1, .int x2]) (st := []) rfl rfl rfl (Nat.le_of_ble_eq_true rfl) (Nat.le_of_ble_eq_true rfl) (f_BP_valueAt sp d N S q1 x2 _ hv3) ?_
          refine pE_jump 1 (pc' := 22) (ls' := [some (.ref x0), some (.int x1), some (.int x2)]) (st' := [.int x1, .int v3]) (fun _ => rfl) ?_
          refine pE_br (¬ v3 = x1) rfl rfl (fun c4 => ?_) (fun c4 => ?_)
          · rw [if_neg c4] at h
            exact f_Mover_houseOn_27 sp d N rec2 x0 x1 x2 S2 hrec2 _ h
          · have c4 := Decidable.not_not.mp c4
            rw [if_pos c4] at h
            refine pE_weak [none, none, some (.int x2)] ⟨rfl, trivial⟩ ?_
            exact f_Mover_houseOn_25 sp d N x2 S2 _ h
def F_Mover_houseOn (N : Nat) (S : pm_S) (a : Nat) (p0 : Int32) : Option (Int32 × pm_S) :=
    if rcv S a 3 = true then
    (F_Mover_houseOn_2 N a p0 N 0 S)
    else none
theorem g_Mover_houseOn {N : Nat} {S : pm_S} {a : Nat} {p0 : Int32} {r : (Int32 × pm_S)} (h : F_Mover_houseOn N S a p0 = some r) : rcv S a 3 = true := by
  unfold F_Mover_houseOn at h
  by_cases c : rcv S a 3 = true
  · exact c
  · rw [if_neg c] at h; cases h
set_option maxHeartbeats 4000000 in
set_option maxRecDepth 20000 in
theorem f_Mover_houseOn (sp : pm_I → List Value → pm_S → pm_O → Prop) (d N : Nat) (S : pm_S) (a : Nat) (p0 : Int32) (r : (Int32 × pm_S)) (h : F_Mover_houseOn N S a p0 = some r) : pm_rel pG sp (d + 2) mi_Mover_houseOn [.ref a, .int p0] S (some (.int r.1), r.2) := by
  have hg := g_Mover_houseOn h
  unfold F_Mover_houseOn at h
  rw [if_pos hg] at h
  refine pE_rel (d := d + 1) ?_
  show pmE pG _ mi_Mover_houseOn 0 [some (.ref a), some (.int p0), none] [] S _
  refine pE_jump 2 (pc' := 2) (ls' := [some (.ref a), some (.int p0), some (.int 0)]) (st' := []) (fun _ => rfl) ?_
  exact f_Mover_houseOn_2 sp d N a p0 N 0 S _ h
def F_Mover_lowestOf_24 (N : Nat)   (S : pm_S) : Option (Int32 × pm_S) :=
    some ((-1), S)
set_option maxHeartbeats 4000000 in
set_option maxRecDepth 20000 in
theorem f_Mover_lowestOf_24 (sp : pm_I → List Value → pm_S → pm_O → Prop) (d N : Nat)   (S : pm_S)  (r : (Int32 × pm_S)) (h : F_Mover_lowestOf_24 N   S = some r) : pmE pG (pm_rel pG sp (d + 0)) mi_Mover_lowestOf 24 [none, none] [] S (some (.int r.1), r.2) := by
  unfold F_Mover_lowestOf_24 at h
  refine pE_jump 1 (pc' := 25) (ls' := [none, none]) (st' := [.int (-1)]) (fun _ => rfl) ?_
  cases h
  exact pE_ret rfl rfl rfl
def F_Mover_lowestOf_16 (N : Nat)  (x1 : Int32) (S : pm_S) : Option (Int32 × pm_S) :=
    some (x1, S)
set_option maxHeartbeats 4000000 in
set_option maxRecDepth 20000 in
theorem f_Mover_lowestOf_16 (sp : pm_I → List Value → pm_S → pm_O → Prop) (d N : Nat)  (x1 : Int32) (S : pm_S)  (r : (Int32 × pm_S)) (h : F_Mover_lowestOf_16 N  x1 S = some r) : pmE pG (pm_rel pG sp (d + 0)) mi_Mover_lowestOf 16 [none, some (.int x1)] [] S (some (.int r.1), r.2) := by
  unfold F_Mover_lowestOf_16 at h
  refine pE_jump 1 (pc' := 17) (ls' := [none, some (.int x1)]) (st' := [.int x1]) (fun _ => rfl) ?_
  cases h
  exact pE_ret rfl rfl rfl
def B_Mover_lowestOf_2 (N : Nat)  (rec2 : Int32 → pm_S → Option (Int32 × pm_S)) (x0 : Int32) (x1 : Int32) (S : pm_S) : Option (Int32 × pm_S) :=
    if 6 ≤ x1 then
    F_Mover_lowestOf_24 N S
    else
    (if ((x0 >>> (x1 &&& 31)) &&& 1) = 0 then
    rec2 (x1 + 1) S
    else
    F_Mover_lowestOf_16 N x1 S)
def F_Mover_lowestOf_2 (N : Nat)  (x0 : Int32) : Nat → Int32 → pm_S → Option (Int32 × pm_S)
  | 0 => fun _ _ => none
  | n + 1 => fun x1 S => B_Mover_lowestOf_2 N  (F_Mover_lowestOf_2 N  x0 n) x0 x1 S
set_option maxHeartbeats 4000000 in
set_option maxRecDepth 20000 in
theorem f_Mover_lowestOf_2 (sp : pm_I → List Value → pm_S → pm_O → Prop) (d N : Nat)  (x0 : Int32)  : ∀ (n : Nat) (x1 : Int32) (S : pm_S) (r : (Int32 × pm_S)), F_Mover_lowestOf_2 N  x0 n x1 S = some r → pmE pG (pm_rel pG sp (d + 0)) mi_Mover_lowestOf 2 [some (.int x0), some (.int x1)] [] S (some (.int r.1), r.2) := by
  intro n
  induction n with
  | zero =>
    intro x1 S r h
    cases h
  | succ n ih =>
    intro x1 S r h
    replace h : B_Mover_lowestOf_2 N  (F_Mover_lowestOf_2 N  x0 n) x0 x1 S = some r := h
    have hrec2 := ih
    generalize F_Mover_lowestOf_2 N  x0 n = rec2 at h hrec2
    unfold B_Mover_lowestOf_2 at h
    refine pE_jump 2 (pc' := 5) (ls' := [some (.int x0), some (.int x1)]) (st' := [.int 6, .int x1]) (fun _ => rfl) ?_
    refine pE_br (6 ≤ x1) rfl rfl (fun c2 => ?_) (fun c2 => ?_)
    · rw [if_pos c2] at h
      refine pE_weak [none, none] trivial ?_
      exact f_Mover_lowestOf_24 sp d N S _ h
    · rw [if_neg c2] at h
      refine pE_jump 5 (pc' := 13) (ls' := [some (.int x0), some (.int x1)]) (st' := [.int ((x0 >>> (x1 &&& 31)) &&& 1)]) (fun _ => rfl) ?_
      refine pE_br (((x0 >>> (x1 &&& 31)) &&& 1) = 0) rfl rfl (fun c1 => ?_) (fun c1 => ?_)
      · rw [if_pos c1] at h
        refine pE_jump 2 (pc' := 2) (ls' := [some (.int x0), some (.int (x1 + 1))]) (st' := []) (fun _ => rfl) ?_
        exact hrec2 (x1 + 1) S _ h
      · rw [if_neg c1] at h
        refine pE_weak [none, some (.int x1)] ⟨rfl, trivial⟩ ?_
        exact f_Mover_lowestOf_16 sp d N x1 S _ h
def F_Mover_lowestOf (N : Nat) (S : pm_S) (p0 : Int32) : Option (Int32 × pm_S) :=
    F_Mover_lowestOf_2 N p0 N 0 S
set_option maxHeartbeats 4000000 in
set_option maxRecDepth 20000 in
theorem f_Mover_lowestOf (sp : pm_I → List Value → pm_S → pm_O → Prop) (d N : Nat) (S : pm_S) (p0 : Int32) (r : (Int32 × pm_S)) (h : F_Mover_lowestOf N S p0 = some r) : pm_rel pG sp (d + 1) mi_Mover_lowestOf [.int p0] S (some (.int r.1), r.2) := by
  unfold F_Mover_lowestOf at h
  refine pE_rel (d := d + 0) ?_
  show pmE pG _ mi_Mover_lowestOf 0 [some (.int p0), none] [] S _
  refine pE_jump 2 (pc' := 2) (ls' := [some (.int p0), some (.int 0)]) (st' := []) (fun _ => rfl) ?_
  exact f_Mover_lowestOf_2 sp d N p0 N 0 S _ h
def F_Mover_moveAside_94 (N : Nat)   (S : pm_S) : Option (Int32 × pm_S) :=
    some (0, S)
set_option maxHeartbeats 4000000 in
set_option maxRecDepth 20000 in
theorem f_Mover_moveAside_94 (sp : pm_I → List Value → pm_S → pm_O → Prop) (d N : Nat)   (S : pm_S)  (r : (Int32 × pm_S)) (h : F_Mover_moveAside_94 N   S = some r) : pmE pG (pm_rel pG sp (d + 2)) mi_Mover_moveAside 94 [none, none, none, none] [] S (some (.int r.1), r.2) := by
  unfold F_Mover_moveAside_94 at h
  refine pE_jump 1 (pc' := 95) (ls' := [none, none, none, none]) (st' := [.int 0]) (fun _ => rfl) ?_
  cases h
  exact pE_ret rfl rfl rfl
def F_Mover_moveAside_88 (N : Nat) (rec7 : Int32 → pm_S → Option (Int32 × pm_S)) (x0 : Nat) (x1 : Int32) (x2 : Int32) (S : pm_S) : Option (Int32 × pm_S) :=
    rec7 (x2 + 1) S
set_option maxHeartbeats 4000000 in
set_option maxRecDepth 20000 in
theorem f_Mover_moveAside_88 (sp : pm_I → List Value → pm_S → pm_O → Prop) (d N : Nat) (rec7 : Int32 → pm_S → Option (Int32 × pm_S)) (x0 : Nat) (x1 : Int32) (x2 : Int32) (S : pm_S) (hrec7 : ∀ (y1 : Int32) (U : pm_S) (r : (Int32 × pm_S)), rec7 y1 U = some r → pmE pG (pm_rel pG sp (d + 2)) mi_Mover_moveAside 7 [some (.ref x0), some (.int x1), some (.int y1), none] [] U (some (.int r.1), r.2)) (r : (Int32 × pm_S)) (h : F_Mover_moveAside_88 N rec7 x0 x1 x2 S = some r) : pmE pG (pm_rel pG sp (d + 2)) mi_Mover_moveAside 88 [some (.ref x0), some (.int x1), some (.int x2), none] [] S (some (.int r.1), r.2) := by
  unfold F_Mover_moveAside_88 at h
  refine pE_jump 2 (pc' := 7) (ls' := [some (.ref x0), some (.int x1), some (.int (x2 + 1)), none]) (st' := []) (fun _ => rfl) ?_
  exact hrec7 (x2 + 1) S _ h
def F_Mover_moveAside_65 (N : Nat)  (x0 : Nat) (x1 : Int32) (x2 : Int32) (S : pm_S) : Option (Int32 × pm_S) :=
    (oI S x0 3 4).bind fun v13 =>
    (wF S x0 3 4 .int (.int (v13 ||| (1 <<< (x2 &&& 31))))).bind fun S14 =>
    (F_Mover_lowestOf N S14 x1).bind fun (v16, S15) =>
    (F_Mover_move N S15 x0 x2 v16).bind fun S17 =>
    some (1, S17)
set_option maxHeartbeats 4000000 in
set_option maxRecDepth 20000 in
theorem f_Mover_moveAside_65 (sp : pm_I → List Value → pm_S → pm_O → Prop) (d N : Nat)  (x0 : Nat) (x1 : Int32) (x2 : Int32) (S : pm_S)  (r : (Int32 × pm_S)) (h : F_Mover_moveAside_65 N  x0 x1 x2 S = some r) : pmE pG (pm_rel pG sp (d + 2)) mi_Mover_moveAside 65 [some (.ref x0), some (.int x1), some (.int x2), none] [] S (some (.int r.1), r.2) := by
  unfold F_Mover_moveAside_65 at h
  refine pE_jump 2 (pc' := 67) (ls' := [some (.ref x0), some (.int x1), some (.int x2), none]) (st' := [.ref x0, .ref x0]) (fun _ => rfl) ?_
  obtain ⟨v13, hv13, h⟩ := obind h
  refine pE_gfI rfl rfl hv13 ?_
  refine pE_jump 4 (pc' := 74) (ls' := [some (.ref x0), some (.int x1), some (.int x2), none]) (st' := [.int (v13 ||| (1 <<< (x2 &&& 31))), .ref x0]) (fun _ => rfl) ?_
  obtain ⟨S14, hS14, h⟩ := obind h
  refine pE_pf rfl rfl rfl hS14 ?_
  refine pE_jump 3 (pc' := 80) (ls' := [some (.ref x0), some (.int x1), some (.int x2), none]) (st' := [.int x1, .int x2, .ref x0]) (fun _ => rfl) ?_
  obtain ⟨⟨v16, S15⟩, hv16, h⟩ := obind h
  try dsimp only at h
  refine pE_is (Bs := [.int x1]) (st := [.int x2, .ref x0]) rfl rfl rfl (Nat.le_of_ble_eq_true rfl) (Nat.le_of_ble_eq_true rfl) (f_Mover_lowestOf sp (d + 1) N S14 x1 _ hv16) ?_
  obtain ⟨S17, hS17, h⟩ := obind h
  refine pE_iv (Bs := [.int x2, .int v16]) (st := []) 1 rfl (Or.inl ⟨rfl, rfl⟩) rfl rfl (Nat.le_of_ble_eq_true rfl) (Nat.le_of_ble_eq_true rfl) (g_Mover_move hS17) (f_Mover_move sp d N S15 x0 x2 v16 _ hS17) ?_
  refine pE_jump 1 (pc' := 87) (ls' := [some (.ref x0), some (.int x1), some (.int x2), none]) (st' := [.int 1]) (fun _ => rfl) ?_
  cases h
  exact pE_ret rfl rfl rfl
def F_Mover_moveAside_33 (N : Nat) (rec7 : Int32 → pm_S → Option (Int32 × pm_S)) (x0 : Nat) (x1 : Int32) (x2 : Int32) (t0 : Int32) (S : pm_S) : Option (Int32 × pm_S) :=
    if t0 = 0 then
    ((F_Mover_isAstray N S x0 x2).bind fun (v5, S4) =>
    if v5 = 0 then
    F_Mover_moveAside_88 N rec7 x0 x1 x2 S4
    else
    ((oR S4 x0 3 1).bind fun oq6 => match oq6 with
    | none => none
    | some q6 =>
    (F_BP_valueAt N S4 q6 x2).bind fun (v8, S7) =>
    (F_Mover_houseOn N S7 x0 v8).bind fun (v10, S9) =>
    (F_Mover_isAstray N S9 x0 v10).bind fun (v12, S11) =>
    if v12 = 0 then
    F_Mover_moveAside_88 N rec7 x0 x1 x2 S11
    else
    F_Mover_moveAside_65 N x0 x1 x2 S11))
    else
    F_Mover_moveAside_88 N rec7 x0 x1 x2 S
set_option maxHeartbeats 4000000 in
set_option maxRecDepth 20000 in
theorem f_Mover_moveAside_33 (sp : pm_I → List Value → pm_S → pm_O → Prop) (d N : Nat) (rec7 : Int32 → pm_S → Option (Int32 × pm_S)) (x0 : Nat) (x1 : Int32) (x2 : Int32) (t0 : Int32) (S : pm_S) (hrec7 : ∀ (y1 : Int32) (U : pm_S) (r : (Int32 × pm_S)), rec7 y1 U = some r → pmE pG (pm_rel pG sp (d + 2)) mi_Mover_moveAside 7 [some (.ref x0), some (.int x1), some (.int y1), none] [] U (some (.int r.1), r.2)) (r : (Int32 × pm_S)) (h : F_Mover_moveAside_33 N rec7 x0 x1 x2 t0 S = some r) : pmE pG (pm_rel pG sp (d + 2)) mi_Mover_moveAside 33 [some (.ref x0), some (.int x1), some (.int x2), none] [.int t0] S (some (.int r.1), r.2) := by
  unfold F_Mover_moveAside_33 at h
  refine pE_jump 2 (pc' := 35) (ls' := [some (.ref x0), some (.int x1), some (.int x2), some (.int t0)]) (st' := [.int t0]) (fun _ => rfl) ?_
  refine pE_br (¬ t0 = 0) rfl rfl (fun c20 => ?_) (fun c20 => ?_)
  · rw [if_neg c20] at h
    refine pE_weak [some (.ref x0), some (.int x1), some (.int x2), none] ⟨rfl, ⟨rfl, ⟨rfl, trivial⟩⟩⟩ ?_
    exact f_Mover_moveAside_88 sp d N rec7 x0 x1 x2 S hrec7 _ h
  · have c20 := Decidable.not_not.mp c20
    rw [if_pos c20] at h
    refine pE_jump 2 (pc' := 40) (ls' := [some (.ref x0), some (.int x1), some (.int x2), some (.int t0)]) (st' := [.int x2, .ref x0]) (fun _ => rfl) ?_
    obtain ⟨⟨v5, S4⟩, hv5, h⟩ := obind h
    try dsimp only at h
    refine pE_iv (Bs := [.int x2]) (st := []) 1 rfl (Or.inl ⟨rfl, rfl⟩) rfl rfl (Nat.le_of_ble_eq_true rfl) (Nat.le_of_ble_eq_true rfl) (g_Mover_isAstray hv5) (f_Mover_isAstray sp d N S x0 x2 _ hv5) ?_
    refine pE_br (v5 = 0) rfl rfl (fun c19 => ?_) (fun c19 => ?_)
    · rw [if_pos c19] at h
      refine pE_weak [some (.ref x0), some (.int x1), some (.int x2), none] ⟨rfl, ⟨rfl, ⟨rfl, trivial⟩⟩⟩ ?_
      exact f_Mover_moveAside_88 sp d N rec7 x0 x1 x2 S4 hrec7 _ h
    · rw [if_neg c19] at h
      refine pE_jump 3 (pc' := 49) (ls' := [some (.ref x0), some (.int x1), some (.int x2), some (.int t0)]) (st' := [.ref x0, .ref x0, .ref x0]) (fun _ => rfl) ?_
      obtain ⟨oq6, hq6, h⟩ := obind h
      cases oq6 with
      | none => cases h
      | some q6 =>
        try dsimp only at h
        refine pE_gfS rfl rfl hq6 ?_
        refine pE_jump 1 (pc' := 53) (ls' := [some (.ref x0), some (.int x1), some (.int x2), some (.int t0)]) (st' := [.int x2, .ref q6, .ref x0, .ref x0]) (fun _ => rfl) ?_
        obtain ⟨⟨v8, S7⟩, hv8, h⟩ := obind h
        try dsimp only at h
        refine pE_is (Bs := [.ref q6, .int x2]) (st := [.ref x0, .ref x0]) rfl rfl rfl (Nat.le_of_ble_eq_true rfl) (Nat.le_of_ble_eq_true rfl) (f_BP_valueAt sp (d + 1) N S4 q6 x2 _ hv8) ?_
        obtain ⟨⟨v10, S9⟩, hv10, h⟩ := obind h
        try dsimp only at h
        refine pE_iv (Bs := [.int v8]) (st := [.ref x0]) 1 rfl (Or.inl ⟨rfl, rfl⟩) rfl rfl (Nat.le_of_ble_eq_true rfl) (Nat.le_of_ble_eq_true rfl) (g_Mover_houseOn hv10) (f_Mover_houseOn sp d N S7 x0 v8 _ hv10) ?_
        obtain ⟨⟨v12, S11⟩, hv12, h⟩ := obind h
        try dsimp only at h
        refine pE_iv (Bs := [.int v10]) (st := []) 1 rfl (Or.inl ⟨rfl, rfl⟩) rfl rfl (Nat.le_of_ble_eq_true rfl) (Nat.le_of_ble_eq_true rfl) (g_Mover_isAstray hv12) (f_Mover_isAstray sp d N S9 x0 v10 _ hv12) ?_
        refine pE_br (v12 = 0) rfl rfl (fun c18 => ?_) (fun c18 => ?_)
        · rw [if_pos c18] at h
          refine pE_weak [some (.ref x0), some (.int x1), some (.int x2), none] ⟨rfl, ⟨rfl, ⟨rfl, trivial⟩⟩⟩ ?_
          exact f_Mover_moveAside_88 sp d N rec7 x0 x1 x2 S11 hrec7 _ h
        · rw [if_neg c18] at h
          refine pE_weak [some (.ref x0), some (.int x1), some (.int x2), none] ⟨rfl, ⟨rfl, ⟨rfl, trivial⟩⟩⟩ ?_
          exact f_Mover_moveAside_65 sp d N x0 x1 x2 S11 _ h
def B_Mover_moveAside_7 (N : Nat)  (rec7 : Int32 → pm_S → Option (Int32 × pm_S)) (x0 : Nat) (x1 : Int32) (x2 : Int32) (S : pm_S) : Option (Int32 × pm_S) :=
    if 10 ≤ x2 then
    F_Mover_moveAside_94 N S
    else
    (if x1 = 0 then
    F_Mover_moveAside_94 N S
    else
    ((oI S x0 3 4).bind fun v3 =>
    if ((v3 >>> (x2 &&& 31)) &&& 1) = 0 then
    F_Mover_moveAside_33 N rec7 x0 x1 x2 0 S
    else
    F_Mover_moveAside_33 N rec7 x0 x1 x2 1 S))
def F_Mover_moveAside_7 (N : Nat)  (x0 : Nat) (x1 : Int32) : Nat → Int32 → pm_S → Option (Int32 × pm_S)
  | 0 => fun _ _ => none
  | n + 1 => fun x2 S => B_Mover_moveAside_7 N  (F_Mover_moveAside_7 N  x0 x1 n) x0 x1 x2 S
set_option maxHeartbeats 4000000 in
set_option maxRecDepth 20000 in
theorem f_Mover_moveAside_7 (sp : pm_I → List Value → pm_S → pm_O → Prop) (d N : Nat)  (x0 : Nat) (x1 : Int32)  : ∀ (n : Nat) (x2 : Int32) (S : pm_S) (r : (Int32 × pm_S)), F_Mover_moveAside_7 N  x0 x1 n x2 S = some r → pmE pG (pm_rel pG sp (d + 2)) mi_Mover_moveAside 7 [some (.ref x0), some (.int x1), some (.int x2), none] [] S (some (.int r.1), r.2) := by
  intro n
  induction n with
  | zero =>
    intro x2 S r h
    cases h
  | succ n ih =>
    intro x2 S r h
    replace h : B_Mover_moveAside_7 N  (F_Mover_moveAside_7 N  x0 x1 n) x0 x1 x2 S = some r := h
    have hrec7 := ih
    generalize F_Mover_moveAside_7 N  x0 x1 n = rec7 at h hrec7
    unfold B_Mover_moveAside_7 at h
    refine pE_jump 2 (pc' := 10) (ls' := [some (.ref x0), some (.int x1), some (.int x2), none]) (st' := [.int 10, .int x2]) (fun _ => rfl) ?_
    refine pE_br (10 ≤ x2) rfl rfl (fun c23 => ?_) (fun c23 => ?_)
    · rw [if_pos c23] at h
      refine pE_weak [none, none, none, none] trivial ?_
      exact f_Mover_moveAside_94 sp d N S _ h
    · rw [if_neg c23] at h
      refine pE_jump 1 (pc' := 14) (ls' := [some (.ref x0), some (.int x1), some (.int x2), none]) (st' := [.int x1]) (fun _ => rfl) ?_
      refine pE_br (x1 = 0) rfl rfl (fun c22 => ?_) (fun c22 => ?_)
      · rw [if_pos c22] at h
        refine pE_weak [none, none, none, none] trivial ?_
        exact f_Mover_moveAside_94 sp d N S _ h
      · rw [if_neg c22] at h
        refine pE_jump 1 (pc' := 18) (ls' := [some (.ref x0), some (.int x1), some (.int x2), none]) (st' := [.ref x0]) (fun _ => rfl) ?_
        obtain ⟨v3, hv3, h⟩ := obind h
        refine pE_gfI rfl rfl hv3 ?_
        refine pE_jump 4 (pc' := 25) (ls' := [some (.ref x0), some (.int x1), some (.int x2), none]) (st' := [.int ((v3 >>> (x2 &&& 31)) &&& 1)]) (fun _ => rfl) ?_
        refine pE_br (((v3 >>> (x2 &&& 31)) &&& 1) = 0) rfl rfl (fun c21 => ?_) (fun c21 => ?_)
        · rw [if_pos c21] at h
          refine pE_jump 1 (pc' := 33) (ls' := [some (.ref x0), some (.int x1), some (.int x2), none]) (st' := [.int 0]) (fun _ => rfl) ?_
          exact f_Mover_moveAside_33 sp d N rec7 x0 x1 x2 0 S hrec7 _ h
        · rw [if_neg c21] at h
          refine pE_jump 2 (pc' := 33) (ls' := [some (.ref x0), some (.int x1), some (.int x2), none]) (st' := [.int 1]) (fun _ => rfl) ?_
          exact f_Mover_moveAside_33 sp d N rec7 x0 x1 x2 1 S hrec7 _ h
def F_Mover_moveAside (N : Nat) (S : pm_S) (a : Nat) : Option (Int32 × pm_S) :=
    if rcv S a 3 = true then
    ((F_Mover_freePairs N S a).bind fun (v2, S1) =>
    F_Mover_moveAside_7 N a v2 N 0 S1)
    else none
theorem g_Mover_moveAside {N : Nat} {S : pm_S} {a : Nat} {r : (Int32 × pm_S)} (h : F_Mover_moveAside N S a = some r) : rcv S a 3 = true := by
  unfold F_Mover_moveAside at h
  by_cases c : rcv S a 3 = true
  · exact c
  · rw [if_neg c] at h; cases h
set_option maxHeartbeats 4000000 in
set_option maxRecDepth 20000 in
theorem f_Mover_moveAside (sp : pm_I → List Value → pm_S → pm_O → Prop) (d N : Nat) (S : pm_S) (a : Nat) (r : (Int32 × pm_S)) (h : F_Mover_moveAside N S a = some r) : pm_rel pG sp (d + 3) mi_Mover_moveAside [.ref a] S (some (.int r.1), r.2) := by
  have hg := g_Mover_moveAside h
  unfold F_Mover_moveAside at h
  rw [if_pos hg] at h
  refine pE_rel (d := d + 2) ?_
  show pmE pG _ mi_Mover_moveAside 0 [some (.ref a), none, none, none] [] S _
  refine pE_jump 1 (pc' := 1) (ls' := [some (.ref a), none, none, none]) (st' := [.ref a]) (fun _ => rfl) ?_
  obtain ⟨⟨v2, S1⟩, hv2, h⟩ := obind h
  try dsimp only at h
  refine pE_iv (Bs := []) (st := []) 1 rfl (Or.inl ⟨rfl, rfl⟩) rfl rfl (Nat.le_of_ble_eq_true rfl) (Nat.le_of_ble_eq_true rfl) (g_Mover_freePairs hv2) (f_Mover_freePairs sp d N S a _ hv2) ?_
  refine pE_jump 3 (pc' := 7) (ls' := [some (.ref a), some (.int v2), some (.int 0), none]) (st' := []) (fun _ => rfl) ?_
  exact f_Mover_moveAside_7 sp d N a v2 N 0 S1 _ h
def F_Mover_work_124 (N : Nat)   (S : pm_S) : Option pm_S :=
    some S
set_option maxHeartbeats 4000000 in
set_option maxRecDepth 20000 in
theorem f_Mover_work_124 (sp : pm_I → List Value → pm_S → pm_O → Prop) (d N : Nat)   (S : pm_S)  (r : pm_S) (h : F_Mover_work_124 N   S = some r) : pmE pG (pm_rel pG sp (d + 3)) mi_Mover_work 124 [none, none, none, none, none, none] [] S (none, r) := by
  unfold F_Mover_work_124 at h
  cases h
  exact pE_ret rfl rfl rfl
def F_Mover_work_117 (N : Nat)   (S : pm_S) : Option pm_S :=
    some S
set_option maxHeartbeats 4000000 in
set_option maxRecDepth 20000 in
theorem f_Mover_work_117 (sp : pm_I → List Value → pm_S → pm_O → Prop) (d N : Nat)   (S : pm_S)  (r : pm_S) (h : F_Mover_work_117 N   S = some r) : pmE pG (pm_rel pG sp (d + 3)) mi_Mover_work 117 [none, none, none, none, none, none] [] S (none, r) := by
  unfold F_Mover_work_117 at h
  cases h
  exact pE_ret rfl rfl rfl
def F_Mover_work_118 (N : Nat) (rec96 : Int32 → pm_S → Option pm_S) (x0 : Nat) (x4 : Int32) (S : pm_S) : Option pm_S :=
    rec96 (x4 + 1) S
set_option maxHeartbeats 4000000 in
set_option maxRecDepth 20000 in
theorem f_Mover_work_118 (sp : pm_I → List Value → pm_S → pm_O → Prop) (d N : Nat) (rec96 : Int32 → pm_S → Option pm_S) (x0 : Nat) (x4 : Int32) (S : pm_S) (hrec96 : ∀ (y1 : Int32) (U : pm_S) (r : pm_S), rec96 y1 U = some r → pmE pG (pm_rel pG sp (d + 3)) mi_Mover_work 96 [some (.ref x0), none, none, none, some (.int y1), none] [] U (none, r)) (r : pm_S) (h : F_Mover_work_118 N rec96 x0 x4 S = some r) : pmE pG (pm_rel pG sp (d + 3)) mi_Mover_work 118 [some (.ref x0), none, none, none, some (.int x4), none] [] S (none, r) := by
  unfold F_Mover_work_118 at h
  refine pE_jump 2 (pc' := 96) (ls' := [some (.ref x0), none, none, none, some (.int (x4 + 1)), none]) (st' := []) (fun _ => rfl) ?_
  exact hrec96 (x4 + 1) S _ h
def B_Mover_work_96 (N : Nat)  (rec96 : Int32 → pm_S → Option pm_S) (x0 : Nat) (x4 : Int32) (S : pm_S) : Option pm_S :=
    if 20 ≤ x4 then
    F_Mover_work_124 N S
    else
    ((F_Mover_moveHome N S x0).bind fun (v5, S4) =>
    if v5 = 0 then
    ((F_Mover_moveAside N S4 x0).bind fun (v7, S6) =>
    if v7 = 0 then
    F_Mover_work_117 N S6
    else
    F_Mover_work_118 N rec96 x0 x4 S6)
    else
    F_Mover_work_118 N rec96 x0 x4 S4)
def F_Mover_work_96 (N : Nat)  (x0 : Nat) : Nat → Int32 → pm_S → Option pm_S
  | 0 => fun _ _ => none
  | n + 1 => fun x4 S => B_Mover_work_96 N  (F_Mover_work_96 N  x0 n) x0 x4 S
set_option maxHeartbeats 4000000 in
set_option maxRecDepth 20000 in
theorem f_Mover_work_96 (sp : pm_I → List Value → pm_S → pm_O → Prop) (d N : Nat)  (x0 : Nat)  : ∀ (n : Nat) (x4 : Int32) (S : pm_S) (r : pm_S), F_Mover_work_96 N  x0 n x4 S = some r → pmE pG (pm_rel pG sp (d + 3)) mi_Mover_work 96 [some (.ref x0), none, none, none, some (.int x4), none] [] S (none, r) := by
  intro n
  induction n with
  | zero =>
    intro x4 S r h
    cases h
  | succ n ih =>
    intro x4 S r h
    replace h : B_Mover_work_96 N  (F_Mover_work_96 N  x0 n) x0 x4 S = some r := h
    have hrec96 := ih
    generalize F_Mover_work_96 N  x0 n = rec96 at h hrec96
    unfold B_Mover_work_96 at h
    refine pE_jump 2 (pc' := 100) (ls' := [some (.ref x0), none, none, none, some (.int x4), none]) (st' := [.int 20, .int x4]) (fun _ => rfl) ?_
    refine pE_br (20 ≤ x4) rfl rfl (fun c10 => ?_) (fun c10 => ?_)
    · rw [if_pos c10] at h
      refine pE_weak [none, none, none, none, none, none] trivial ?_
      exact f_Mover_work_124 sp d N S _ h
    · rw [if_neg c10] at h
      refine pE_jump 1 (pc' := 104) (ls' := [some (.ref x0), none, none, none, some (.int x4), none]) (st' := [.ref x0]) (fun _ => rfl) ?_
      obtain ⟨⟨v5, S4⟩, hv5, h⟩ := obind h
      try dsimp only at h
      refine pE_iv (Bs := []) (st := []) 1 rfl (Or.inl ⟨rfl, rfl⟩) rfl rfl (Nat.le_of_ble_eq_true rfl) (Nat.le_of_ble_eq_true rfl) (g_Mover_moveHome hv5) (f_Mover_moveHome sp d N S x0 _ hv5) ?_
      refine pE_br (¬ v5 = 0) rfl rfl (fun c9 => ?_) (fun c9 => ?_)
      · rw [if_neg c9] at h
        exact f_Mover_work_118 sp d N rec96 x0 x4 S4 hrec96 _ h
      · have c9 := Decidable.not_not.mp c9
        rw [if_pos c9] at h
        refine pE_jump 1 (pc' := 111) (ls' := [some (.ref x0), none, none, none, some (.int x4), none]) (st' := [.ref x0]) (fun _ => rfl) ?_
        obtain ⟨⟨v7, S6⟩, hv7, h⟩ := obind h
        try dsimp only at h
        refine pE_iv (Bs := []) (st := []) 1 rfl (Or.inl ⟨rfl, rfl⟩) rfl rfl (Nat.le_of_ble_eq_true rfl) (Nat.le_of_ble_eq_true rfl) (g_Mover_moveAside hv7) (f_Mover_moveAside sp d N S4 x0 _ hv7) ?_
        refine pE_br (¬ v7 = 0) rfl rfl (fun c8 => ?_) (fun c8 => ?_)
        · rw [if_neg c8] at h
          exact f_Mover_work_118 sp d N rec96 x0 x4 S6 hrec96 _ h
        · have c8 := Decidable.not_not.mp c8
          rw [if_pos c8] at h
          refine pE_weak [none, none, none, none, none, none] trivial ?_
          exact f_Mover_work_117 sp d N S6 _ h
def F_Mover_work_93 (N : Nat)  (x0 : Nat) (S : pm_S) : Option pm_S :=
    F_Mover_work_96 N x0 N 0 S
set_option maxHeartbeats 4000000 in
set_option maxRecDepth 20000 in
theorem f_Mover_work_93 (sp : pm_I → List Value → pm_S → pm_O → Prop) (d N : Nat)  (x0 : Nat) (S : pm_S)  (r : pm_S) (h : F_Mover_work_93 N  x0 S = some r) : pmE pG (pm_rel pG sp (d + 3)) mi_Mover_work 93 [some (.ref x0), none, none, none, none, none] [] S (none, r) := by
  unfold F_Mover_work_93 at h
  refine pE_jump 2 (pc' := 96) (ls' := [some (.ref x0), none, none, none, some (.int 0), none]) (st' := []) (fun _ => rfl) ?_
  exact f_Mover_work_96 sp d N x0 N 0 S _ h
def F_Mover_work_63_2 (N : Nat) (rec18 : Int32 → pm_S → Option pm_S) (x0 : Nat) (x1 : Nat) (x2 : Int32) (x4 : Int32) (t0 : Int32) (t1 : Int32) (t2 : Nat) (S : pm_S) : Option pm_S :=
    (F_BP_setAt N S t2 t1 t0).bind fun S18 =>
    (oR S18 x0 3 1).bind fun oq19 => match oq19 with
    | none => none
    | some q19 =>
    (oR S18 x1 9 9).bind fun oq24 => match oq24 with
    | none => none
    | some q24 =>
    (oR S18 q24 4 10).bind fun oq25 => match oq25 with
    | none => none
    | some q25 =>
    (F_BP_valueAt N S18 q25 x4).bind fun (v27, S26) =>
    (F_BP_setAt N S26 q19 x4 v27).bind fun S28 =>
    rec18 (x4 + 1) S28
set_option maxHeartbeats 4000000 in
set_option maxRecDepth 20000 in
theorem f_Mover_work_63_2 (sp : pm_I → List Value → pm_S → pm_O → Prop) (d N : Nat) (rec18 : Int32 → pm_S → Option pm_S) (x0 : Nat) (x1 : Nat) (x2 : Int32) (x4 : Int32) (t0 : Int32) (t1 : Int32) (t2 : Nat) (S : pm_S) (hrec18 : ∀ (y1 : Int32) (U : pm_S) (r : pm_S), rec18 y1 U = some r → pmE pG (pm_rel pG sp (d + 3)) mi_Mover_work 18 [some (.ref x0), some (.ref x1), some (.int x2), none, some (.int y1), none] [] U (none, r)) (r : pm_S) (h : F_Mover_work_63_2 N rec18 x0 x1 x2 x4 t0 t1 t2 S = some r) : pmE pG (pm_rel pG sp (d + 3)) mi_Mover_work 63 [some (.ref x0), some (.ref x1), some (.int x2), none, some (.int x4), none] [.int t0, .int t1, .ref t2] S (none, r) := by
  unfold F_Mover_work_63_2 at h
  obtain ⟨S18, hS18, h⟩ := obind h
  refine pE_is (Bs := [.ref t2, .int t1, .int t0]) (st := []) rfl rfl rfl (Nat.le_of_ble_eq_true rfl) (Nat.le_of_ble_eq_true rfl) (f_BP_setAt sp (d + 2) N S t2 t1 t0 _ hS18) ?_
  refine pE_jump 1 (pc' := 67) (ls' := [some (.ref x0), some (.ref x1), some (.int x2), none, some (.int x4), none]) (st' := [.ref x0]) (fun _ => rfl) ?_
  obtain ⟨oq19, hq19, h⟩ := obind h
  cases oq19 with
  | none => cases h
  | some q19 =>
    try dsimp only at h
    refine pE_gfS rfl rfl hq19 ?_
    refine pE_jump 2 (pc' := 73) (ls' := [some (.ref x0), some (.ref x1), some (.int x2), none, some (.int x4), none]) (st' := [.ref x1, .int x4, .ref q19]) (fun _ => rfl) ?_
    obtain ⟨oq24, hq24, h⟩ := obind h
    cases oq24 with
    | none => cases h
    | some q24 =>
      try dsimp only at h
      refine pE_gfS rfl rfl hq24 ?_
      obtain ⟨oq25, hq25, h⟩ := obind h
      cases oq25 with
      | none => cases h
      | some q25 =>
        try dsimp only at h
        refine pE_gfS rfl rfl hq25 ?_
        refine pE_jump 1 (pc' := 81) (ls' := [some (.ref x0), some (.ref x1), some (.int x2), none, some (.int x4), none]) (st' := [.int x4, .ref q25, .int x4, .ref q19]) (fun _ => rfl) ?_
        obtain ⟨⟨v27, S26⟩, hv27, h⟩ := obind h
        try dsimp only at h
        refine pE_is (Bs := [.ref q25, .int x4]) (st := [.int x4, .ref q19]) rfl rfl rfl (Nat.le_of_ble_eq_true rfl) (Nat.le_of_ble_eq_true rfl) (f_BP_valueAt sp (d + 2) N S18 q25 x4 _ hv27) ?_
        obtain ⟨S28, hS28, h⟩ := obind h
        refine pE_is (Bs := [.ref q19, .int x4, .int v27]) (st := []) rfl rfl rfl (Nat.le_of_ble_eq_true rfl) (Nat.le_of_ble_eq_true rfl) (f_BP_setAt sp (d + 2) N S26 q19 x4 v27 _ hS28) ?_
        refine pE_jump 2 (pc' := 18) (ls' := [some (.ref x0), some (.ref x1), some (.int x2), none, some (.int (x4 + 1)), none]) (st' := []) (fun _ => rfl) ?_
        exact hrec18 (x4 + 1) S28 _ h
def F_Mover_work_62_2 (N : Nat) (rec18 : Int32 → pm_S → Option pm_S) (x0 : Nat) (x1 : Nat) (x2 : Int32) (x4 : Int32) (t0 : Int32) (t1 : Nat) (S : pm_S) : Option pm_S :=
    F_Mover_work_63_2 N rec18 x0 x1 x2 x4 (-1) t0 t1 S
set_option maxHeartbeats 4000000 in
set_option maxRecDepth 20000 in
theorem f_Mover_work_62_2 (sp : pm_I → List Value → pm_S → pm_O → Prop) (d N : Nat) (rec18 : Int32 → pm_S → Option pm_S) (x0 : Nat) (x1 : Nat) (x2 : Int32) (x4 : Int32) (t0 : Int32) (t1 : Nat) (S : pm_S) (hrec18 : ∀ (y1 : Int32) (U : pm_S) (r : pm_S), rec18 y1 U = some r → pmE pG (pm_rel pG sp (d + 3)) mi_Mover_work 18 [some (.ref x0), some (.ref x1), some (.int x2), none, some (.int y1), none] [] U (none, r)) (r : pm_S) (h : F_Mover_work_62_2 N rec18 x0 x1 x2 x4 t0 t1 S = some r) : pmE pG (pm_rel pG sp (d + 3)) mi_Mover_work 62 [some (.ref x0), some (.ref x1), some (.int x2), none, some (.int x4), none] [.int t0, .ref t1] S (none, r) := by
  unfold F_Mover_work_62_2 at h
  refine pE_jump 1 (pc' := 63) (ls' := [some (.ref x0), some (.ref x1), some (.int x2), none, some (.int x4), none]) (st' := [.int (-1), .int t0, .ref t1]) (fun _ => rfl) ?_
  exact f_Mover_work_63_2 sp d N rec18 x0 x1 x2 x4 (-1) t0 t1 S hrec18 _ h
def B_Mover_work_18 (N : Nat)  (rec18 : Int32 → pm_S → Option pm_S) (x0 : Nat) (x1 : Nat) (x2 : Int32) (x4 : Int32) (S : pm_S) : Option pm_S :=
    if 10 ≤ x4 then
    F_Mover_work_93 N x0 S
    else
    ((F_Wires_homeOf N S x1 x4).bind fun (v12, S11) =>
    (oR S11 x0 3 0).bind fun oq13 => match oq13 with
    | none => none
    | some q13 =>
    if v12 = (-1) then
    F_Mover_work_62_2 N rec18 x0 x1 x2 x4 x4 q13 S11
    else
    ((F_BP_cableOf N S11 v12).bind fun (v30, S29) =>
    if v30 = x2 then
    ((F_BP_pairOf N S29 v12).bind fun (v32, S31) =>
    F_Mover_work_63_2 N rec18 x0 x1 x2 x4 v32 x4 q13 S31)
    else
    F_Mover_work_62_2 N rec18 x0 x1 x2 x4 x4 q13 S29))
def F_Mover_work_18 (N : Nat)  (x0 : Nat) (x1 : Nat) (x2 : Int32) : Nat → Int32 → pm_S → Option pm_S
  | 0 => fun _ _ => none
  | n + 1 => fun x4 S => B_Mover_work_18 N  (F_Mover_work_18 N  x0 x1 x2 n) x0 x1 x2 x4 S
set_option maxHeartbeats 4000000 in
set_option maxRecDepth 20000 in
theorem f_Mover_work_18 (sp : pm_I → List Value → pm_S → pm_O → Prop) (d N : Nat)  (x0 : Nat) (x1 : Nat) (x2 : Int32)  : ∀ (n : Nat) (x4 : Int32) (S : pm_S) (r : pm_S), F_Mover_work_18 N  x0 x1 x2 n x4 S = some r → pmE pG (pm_rel pG sp (d + 3)) mi_Mover_work 18 [some (.ref x0), some (.ref x1), some (.int x2), none, some (.int x4), none] [] S (none, r) := by
  intro n
  induction n with
  | zero =>
    intro x4 S r h
    cases h
  | succ n ih =>
    intro x4 S r h
    replace h : B_Mover_work_18 N  (F_Mover_work_18 N  x0 x1 x2 n) x0 x1 x2 x4 S = some r := h
    have hrec18 := ih
    generalize F_Mover_work_18 N  x0 x1 x2 n = rec18 at h hrec18
    unfold B_Mover_work_18 at h
    refine pE_jump 2 (pc' := 22) (ls' := [some (.ref x0), some (.ref x1), some (.int x2), none, some (.int x4), none]) (st' := [.int 10, .int x4]) (fun _ => rfl) ?_
    refine pE_br (10 ≤ x4) rfl rfl (fun c35 => ?_) (fun c35 => ?_)
    · rw [if_pos c35] at h
      refine pE_weak [some (.ref x0), none, none, none, none, none] ⟨rfl, trivial⟩ ?_
      exact f_Mover_work_93 sp d N x0 S _ h
    · rw [if_neg c35] at h
      refine pE_jump 2 (pc' := 28) (ls' := [some (.ref x0), some (.ref x1), some (.int x2), none, some (.int x4), none]) (st' := [.int x4, .ref x1]) (fun _ => rfl) ?_
      obtain ⟨⟨v12, S11⟩, hv12, h⟩ := obind h
      try dsimp only at h
      refine pE_iv (Bs := [.int x4]) (st := []) 1 rfl (Or.inl ⟨rfl, rfl⟩) rfl rfl (Nat.le_of_ble_eq_true rfl) (Nat.le_of_ble_eq_true rfl) (g_Wires_homeOf hv12) (f_Wires_homeOf sp (d + 1) N S x1 x4 _ hv12) ?_
      refine pE_jump 2 (pc' := 34) (ls' := [some (.ref x0), some (.ref x1), some (.int x2), none, some (.int x4), some (.int v12)]) (st' := [.ref x0]) (fun _ => rfl) ?_
      obtain ⟨oq13, hq13, h⟩ := obind h
      cases oq13 with
      | none => cases h
      | some q13 =>
        try dsimp only at h
        refine pE_gfS rfl rfl hq13 ?_
        refine pE_jump 3 (pc' := 42) (ls' := [some (.ref x0), some (.ref x1), some (.int x2), none, some (.int x4), some (.int v12)]) (st' := [.int (-1), .int v12, .int x4, .ref q13]) (fun _ => rfl) ?_
        refine pE_br (v12 = (-1)) rfl rfl (fun c34 => ?_) (fun c34 => ?_)
        · rw [if_pos c34] at h
          refine pE_weak [some (.ref x0), some (.ref x1), some (.int x2), none, some (.int x4), none] ⟨rfl, ⟨rfl, ⟨rfl, ⟨rfl, trivial⟩⟩⟩⟩ ?_
          exact f_Mover_work_62_2 sp d N rec18 x0 x1 x2 x4 x4 q13 S11 hrec18 _ h
        · rw [if_neg c34] at h
          refine pE_jump 1 (pc' := 47) (ls' := [some (.ref x0), some (.ref x1), some (.int x2), none, some (.int x4), some (.int v12)]) (st' := [.int v12, .int x4, .ref q13]) (fun _ => rfl) ?_
          obtain ⟨⟨v30, S29⟩, hv30, h⟩ := obind h
          try dsimp only at h
          refine pE_is (Bs := [.int v12]) (st := [.int x4, .ref q13]) rfl rfl rfl (Nat.le_of_ble_eq_true rfl) (Nat.le_of_ble_eq_true rfl) (f_BP_cableOf sp (d + 2) N S11 v12 _ hv30) ?_
          refine pE_jump 1 (pc' := 51) (ls' := [some (.ref x0), some (.ref x1), some (.int x2), none, some (.int x4), some (.int v12)]) (st' := [.int x2, .int v30, .int x4, .ref q13]) (fun _ => rfl) ?_
          refine pE_br (¬ v30 = x2) rfl rfl (fun c33 => ?_) (fun c33 => ?_)
          · rw [if_neg c33] at h
            refine pE_weak [some (.ref x0), some (.ref x1), some (.int x2), none, some (.int x4), none] ⟨rfl, ⟨rfl, ⟨rfl, ⟨rfl, trivial⟩⟩⟩⟩ ?_
            exact f_Mover_work_62_2 sp d N rec18 x0 x1 x2 x4 x4 q13 S29 hrec18 _ h
          · have c33 := Decidable.not_not.mp c33
            rw [if_pos c33] at h
            refine pE_jump 1 (pc' := 56) (ls' := [some (.ref x0), some (.ref x1), some (.int x2), none, some (.int x4), some (.int v12)]) (st' := [.int v12, .int x4, .ref q13]) (fun _ => rfl) ?_
            obtain ⟨⟨v32, S31⟩, hv32, h⟩ := obind h
            try dsimp only at h
            refine pE_is (Bs := [.int v12]) (st := [.int x4, .ref q13]) rfl rfl rfl (Nat.le_of_ble_eq_true rfl) (Nat.le_of_ble_eq_true rfl) (f_BP_pairOf sp (d + 2) N S29 v12 _ hv32) ?_
            refine pE_jump 1 (pc' := 63) (ls' := [some (.ref x0), some (.ref x1), some (.int x2), none, some (.int x4), some (.int v12)]) (st' := [.int v32, .int x4, .ref q13]) (fun _ => rfl) ?_
            refine pE_weak [some (.ref x0), some (.ref x1), some (.int x2), none, some (.int x4), none] ⟨rfl, ⟨rfl, ⟨rfl, ⟨rfl, trivial⟩⟩⟩⟩ ?_
            exact f_Mover_work_63_2 sp d N rec18 x0 x1 x2 x4 v32 x4 q13 S31 hrec18 _ h
def F_Mover_work (N : Nat) (S : pm_S) (a : Nat) (p0 : Nat) (p1 : Int32) (p2 : Int32) : Option pm_S :=
    if rcv S a 3 = true then
    ((wF S a 3 3 .int (.int p2)).bind fun S1 =>
    (wF S1 a 3 4 .int (.int 0)).bind fun S2 =>
    (wF S2 a 3 5 .int (.int 0)).bind fun S3 =>
    F_Mover_work_18 N a p0 p1 N 0 S3)
    else none
theorem g_Mover_work {N : Nat} {S : pm_S} {a : Nat} {p0 : Nat} {p1 : Int32} {p2 : Int32} {r : pm_S} (h : F_Mover_work N S a p0 p1 p2 = some r) : rcv S a 3 = true := by
  unfold F_Mover_work at h
  by_cases c : rcv S a 3 = true
  · exact c
  · rw [if_neg c] at h; cases h
set_option maxHeartbeats 4000000 in
set_option maxRecDepth 20000 in
theorem f_Mover_work (sp : pm_I → List Value → pm_S → pm_O → Prop) (d N : Nat) (S : pm_S) (a : Nat) (p0 : Nat) (p1 : Int32) (p2 : Int32) (r : pm_S) (h : F_Mover_work N S a p0 p1 p2 = some r) : pm_rel pG sp (d + 4) mi_Mover_work [.ref a, .ref p0, .int p1, .int p2] S (none, r) := by
  have hg := g_Mover_work h
  unfold F_Mover_work at h
  rw [if_pos hg] at h
  refine pE_rel (d := d + 3) ?_
  show pmE pG _ mi_Mover_work 0 [some (.ref a), some (.ref p0), some (.int p1), some (.int p2), none, none] [] S _
  refine pE_jump 2 (pc' := 2) (ls' := [some (.ref a), some (.ref p0), some (.int p1), some (.int p2), none, none]) (st' := [.int p2, .ref a]) (fun _ => rfl) ?_
  obtain ⟨S1, hS1, h⟩ := obind h
  refine pE_pf rfl rfl rfl hS1 ?_
  refine pE_jump 2 (pc' := 7) (ls' := [some (.ref a), some (.ref p0), some (.int p1), some (.int p2), none, none]) (st' := [.int 0, .ref a]) (fun _ => rfl) ?_
  obtain ⟨S2, hS2, h⟩ := obind h
  refine pE_pf rfl rfl rfl hS2 ?_
  refine pE_jump 2 (pc' := 12) (ls' := [some (.ref a), some (.ref p0), some (.int p1), some (.int p2), none, none]) (st' := [.int 0, .ref a]) (fun _ => rfl) ?_
  obtain ⟨S3, hS3, h⟩ := obind h
  refine pE_pf rfl rfl rfl hS3 ?_
  refine pE_jump 2 (pc' := 18) (ls' := [some (.ref a), some (.ref p0), some (.int p1), some (.int p2), some (.int 0), none]) (st' := []) (fun _ => rfl) ?_
  refine pE_weak [some (.ref a), some (.ref p0), some (.int p1), none, some (.int 0), none] ⟨rfl, ⟨rfl, ⟨rfl, ⟨rfl, trivial⟩⟩⟩⟩ ?_
  exact f_Mover_work_18 sp d N a p0 p1 N 0 S3 _ h
def F_Mover_moveAt_20 (N : Nat)  (t0 : Int32) (S : pm_S) : Option (Int32 × pm_S) :=
    some (t0, S)
set_option maxHeartbeats 4000000 in
set_option maxRecDepth 20000 in
theorem f_Mover_moveAt_20 (sp : pm_I → List Value → pm_S → pm_O → Prop) (d N : Nat)  (t0 : Int32) (S : pm_S)  (r : (Int32 × pm_S)) (h : F_Mover_moveAt_20 N  t0 S = some r) : pmE pG (pm_rel pG sp (d + 1)) mi_Mover_moveAt 20 [none, none] [.int t0] S (some (.int r.1), r.2) := by
  unfold F_Mover_moveAt_20 at h
  cases h
  exact pE_ret rfl rfl rfl
def F_Mover_moveAt (N : Nat) (S : pm_S) (a : Nat) (p0 : Int32) : Option (Int32 × pm_S) :=
    if rcv S a 3 = true then
    ((oI S a 3 5).bind fun v1 =>
    if v1 ≤ p0 then
    F_Mover_moveAt_20 N (-1) S
    else
    ((oR S a 3 2).bind fun oq2 => match oq2 with
    | none => none
    | some q2 =>
    (F_BP_valueAt N S q2 p0).bind fun (v4, S3) =>
    F_Mover_moveAt_20 N v4 S3))
    else none
theorem g_Mover_moveAt {N : Nat} {S : pm_S} {a : Nat} {p0 : Int32} {r : (Int32 × pm_S)} (h : F_Mover_moveAt N S a p0 = some r) : rcv S a 3 = true := by
  unfold F_Mover_moveAt at h
  by_cases c : rcv S a 3 = true
  · exact c
  · rw [if_neg c] at h; cases h
set_option maxHeartbeats 4000000 in
set_option maxRecDepth 20000 in
theorem f_Mover_moveAt (sp : pm_I → List Value → pm_S → pm_O → Prop) (d N : Nat) (S : pm_S) (a : Nat) (p0 : Int32) (r : (Int32 × pm_S)) (h : F_Mover_moveAt N S a p0 = some r) : pm_rel pG sp (d + 2) mi_Mover_moveAt [.ref a, .int p0] S (some (.int r.1), r.2) := by
  have hg := g_Mover_moveAt h
  unfold F_Mover_moveAt at h
  rw [if_pos hg] at h
  refine pE_rel (d := d + 1) ?_
  show pmE pG _ mi_Mover_moveAt 0 [some (.ref a), some (.int p0)] [] S _
  refine pE_jump 2 (pc' := 2) (ls' := [some (.ref a), some (.int p0)]) (st' := [.ref a, .int p0]) (fun _ => rfl) ?_
  obtain ⟨v1, hv1, h⟩ := obind h
  refine pE_gfI rfl rfl hv1 ?_
  refine pE_br (v1 ≤ p0) rfl rfl (fun c5 => ?_) (fun c5 => ?_)
  · rw [if_pos c5] at h
    refine pE_jump 1 (pc' := 20) (ls' := [some (.ref a), some (.int p0)]) (st' := [.int (-1)]) (fun _ => rfl) ?_
    refine pE_weak [none, none] trivial ?_
    exact f_Mover_moveAt_20 sp d N (-1) S _ h
  · rw [if_neg c5] at h
    refine pE_jump 1 (pc' := 9) (ls' := [some (.ref a), some (.int p0)]) (st' := [.ref a]) (fun _ => rfl) ?_
    obtain ⟨oq2, hq2, h⟩ := obind h
    cases oq2 with
    | none => cases h
    | some q2 =>
      try dsimp only at h
      refine pE_gfS rfl rfl hq2 ?_
      refine pE_jump 1 (pc' := 13) (ls' := [some (.ref a), some (.int p0)]) (st' := [.int p0, .ref q2]) (fun _ => rfl) ?_
      obtain ⟨⟨v4, S3⟩, hv4, h⟩ := obind h
      try dsimp only at h
      refine pE_is (Bs := [.ref q2, .int p0]) (st := []) rfl rfl rfl (Nat.le_of_ble_eq_true rfl) (Nat.le_of_ble_eq_true rfl) (f_BP_valueAt sp d N S q2 p0 _ hv4) ?_
      refine pE_jump 1 (pc' := 20) (ls' := [some (.ref a), some (.int p0)]) (st' := [.int v4]) (fun _ => rfl) ?_
      refine pE_weak [none, none] trivial ?_
      exact f_Mover_moveAt_20 sp d N v4 S3 _ h
def F_BP_moves_23 (N : Nat)   (S : pm_S) : Option (Int32 × pm_S) :=
    some ((-1), S)
set_option maxHeartbeats 4000000 in
set_option maxRecDepth 20000 in
theorem f_BP_moves_23 (sp : pm_I → List Value → pm_S → pm_O → Prop) (d N : Nat)   (S : pm_S)  (r : (Int32 × pm_S)) (h : F_BP_moves_23 N   S = some r) : pmE pG (pm_rel pG sp (d + 6)) mi_BP_moves 23 [none, none, none, none, none, none] [] S (some (.int r.1), r.2) := by
  unfold F_BP_moves_23 at h
  refine pE_jump 1 (pc' := 24) (ls' := [none, none, none, none, none, none]) (st' := [.int (-1)]) (fun _ => rfl) ?_
  cases h
  exact pE_ret rfl rfl rfl
def F_BP_moves_96 (N : Nat)  (t0 : Int32) (S : pm_S) : Option (Int32 × pm_S) :=
    some (t0, S)
set_option maxHeartbeats 4000000 in
set_option maxRecDepth 20000 in
theorem f_BP_moves_96 (sp : pm_I → List Value → pm_S → pm_O → Prop) (d N : Nat)  (t0 : Int32) (S : pm_S)  (r : (Int32 × pm_S)) (h : F_BP_moves_96 N  t0 S = some r) : pmE pG (pm_rel pG sp (d + 6)) mi_BP_moves 96 [none, none, none, none, none, none] [.int t0] S (some (.int r.1), r.2) := by
  unfold F_BP_moves_96 at h
  cases h
  exact pE_ret rfl rfl rfl
def F_BP_moves (N : Nat) (S : pm_S) (a : Nat) (p0 : Int32) (p1 : Int32) (p2 : Int32) (p3 : Int32) : Option (Int32 × pm_S) :=
    if rcv S a 10 = true then
    ((F_BP_planWith N S a p0 p1).bind fun (oq2, S1) => match oq2 with
    | none => F_BP_moves_23 N S1
    | some q2 =>
    (F_Plan_cableTo N S1 q2 p2).bind fun (v4, S3) =>
    if v4 = (-1) then
    F_BP_moves_23 N S3
    else
    ((oR S3 a 10 3).bind fun oq5 => match oq5 with
    | none => none
    | some q5 =>
    (oR S3 q5 0 0).bind fun oq6 => match oq6 with
    | none => none
    | some q6 =>
    (F_Wires_lay N S3 q6 q2 p1).bind fun S7 =>
    (oR S7 a 10 4).bind fun oq8 => match oq8 with
    | none => none
    | some q8 =>
    (oR S7 a 10 3).bind fun oq29 => match oq29 with
    | none => none
    | some q29 =>
    (oR S7 q29 0 0).bind fun oq30 => match oq30 with
    | none => none
    | some q30 =>
    (F_Plan_cableTo N S7 q2 p2).bind fun (v41, S40) =>
    (oR S40 a 10 3).bind fun oq42 => match oq42 with
    | none => none
    | some q42 =>
    (F_Plan_cableTo N S40 q2 p2).bind fun (v46, S45) =>
    (F_Bench_openPairs N S45 q42 v46).bind fun (v48, S47) =>
    (F_Mover_work N S47 q8 q30 v41 v48).bind fun S49 =>
    if p3 = (-1) then
    ((oR S49 a 10 4).bind fun oq50 => match oq50 with
    | none => none
    | some q50 =>
    (oI S49 q50 3 5).bind fun v51 =>
    F_BP_moves_96 N v51 S49)
    else
    ((oR S49 a 10 4).bind fun oq52 => match oq52 with
    | none => none
    | some q52 =>
    (F_Mover_moveAt N S49 q52 p3).bind fun (v54, S53) =>
    F_BP_moves_96 N v54 S53)))
    else none
theorem g_BP_moves {N : Nat} {S : pm_S} {a : Nat} {p0 : Int32} {p1 : Int32} {p2 : Int32} {p3 : Int32} {r : (Int32 × pm_S)} (h : F_BP_moves N S a p0 p1 p2 p3 = some r) : rcv S a 10 = true := by
  unfold F_BP_moves at h
  by_cases c : rcv S a 10 = true
  · exact c
  · rw [if_neg c] at h; cases h
set_option maxHeartbeats 4000000 in
set_option maxRecDepth 20000 in
theorem f_BP_moves (sp : pm_I → List Value → pm_S → pm_O → Prop) (d N : Nat) (S : pm_S) (a : Nat) (p0 : Int32) (p1 : Int32) (p2 : Int32) (p3 : Int32) (r : (Int32 × pm_S)) (h : F_BP_moves N S a p0 p1 p2 p3 = some r) : pm_rel pG sp (d + 7) mi_BP_moves [.ref a, .int p0, .int p1, .int p2, .int p3] S (some (.int r.1), r.2) := by
  have hg := g_BP_moves h
  unfold F_BP_moves at h
  rw [if_pos hg] at h
  refine pE_rel (d := d + 6) ?_
  show pmE pG _ mi_BP_moves 0 [some (.ref a), some (.int p0), some (.int p1), some (.int p2), some (.int p3), none] [] S _
  refine pE_jump 3 (pc' := 3) (ls' := [some (.ref a), some (.int p0), some (.int p1), some (.int p2), some (.int p3), none]) (st' := [.int p1, .int p0, .ref a]) (fun _ => rfl) ?_
  obtain ⟨⟨oq2, S1⟩, hq2, h⟩ := obind h
  try dsimp only at h
  cases oq2 with
  | none =>
    try dsimp only at h
    refine pE_iv (Bs := [.int p0, .int p1]) (st := []) 1 rfl (Or.inl ⟨rfl, rfl⟩) rfl rfl (Nat.le_of_ble_eq_true rfl) (Nat.le_of_ble_eq_true rfl) (g_BP_planWith hq2) (f_BP_planWith sp (d + 2) N S a p0 p1 _ hq2) ?_
    refine pE_jump 3 (pc' := 23) (ls' := [some (.ref a), some (.int p0), some (.int p1), some (.int p2), some (.int p3), some (.null)]) (st' := []) (fun _ => rfl) ?_
    refine pE_weak [none, none, none, none, none, none] trivial ?_
    exact f_BP_moves_23 sp d N S1 _ h
  | some q2 =>
    try dsimp only at h
    refine pE_iv (Bs := [.int p0, .int p1]) (st := []) 1 rfl (Or.inl ⟨rfl, rfl⟩) rfl rfl (Nat.le_of_ble_eq_true rfl) (Nat.le_of_ble_eq_true rfl) (g_BP_planWith hq2) (f_BP_planWith sp (d + 2) N S a p0 p1 _ hq2) ?_
    refine pE_jump 5 (pc' := 16) (ls' := [some (.ref a), some (.int p0), some (.int p1), some (.int p2), some (.int p3), some (.ref q2)]) (st' := [.int p2, .ref q2]) (fun _ => rfl) ?_
    obtain ⟨⟨v4, S3⟩, hv4, h⟩ := obind h
    try dsimp only at h
    refine pE_iv (Bs := [.int p2]) (st := []) 1 rfl (Or.inl ⟨rfl, rfl⟩) rfl rfl (Nat.le_of_ble_eq_true rfl) (Nat.le_of_ble_eq_true rfl) (g_Plan_cableTo hv4) (f_Plan_cableTo sp (d + 4) N S1 q2 p2 _ hv4) ?_
    refine pE_jump 1 (pc' := 20) (ls' := [some (.ref a), some (.int p0), some (.int p1), some (.int p2), some (.int p3), some (.ref q2)]) (st' := [.int (-1), .int v4]) (fun _ => rfl) ?_
    refine pE_br (¬ v4 = (-1)) rfl rfl (fun c56 => ?_) (fun c56 => ?_)
    · rw [if_neg c56] at h
      refine pE_jump 1 (pc' := 26) (ls' := [some (.ref a), some (.int p0), some (.int p1), some (.int p2), some (.int p3), some (.ref q2)]) (st' := [.ref a]) (fun _ => rfl) ?_
      obtain ⟨oq5, hq5, h⟩ := obind h
      cases oq5 with
      | none => cases h
      | some q5 =>
        try dsimp only at h
        refine pE_gfS rfl rfl hq5 ?_
        obtain ⟨oq6, hq6, h⟩ := obind h
        cases oq6 with
        | none => cases h
        | some q6 =>
          try dsimp only at h
          refine pE_gfS rfl rfl hq6 ?_
          refine pE_jump 2 (pc' := 35) (ls' := [some (.ref a), some (.int p0), some (.int p1), some (.int p2), some (.int p3), some (.ref q2)]) (st' := [.int p1, .ref q2, .ref q6]) (fun _ => rfl) ?_
          obtain ⟨S7, hS7, h⟩ := obind h
          refine pE_iv (Bs := [.ref q2, .int p1]) (st := []) 1 rfl (Or.inl ⟨rfl, rfl⟩) rfl rfl (Nat.le_of_ble_eq_true rfl) (Nat.le_of_ble_eq_true rfl) (g_Wires_lay hS7) (f_Wires_lay sp (d + 1) N S3 q6 q2 p1 _ hS7) ?_
          refine pE_jump 1 (pc' := 39) (ls' := [some (.ref a), some (.int p0), some (.int p1), some (.int p2), some (.int p3), some (.ref q2)]) (st' := [.ref a]) (fun _ => rfl) ?_
          obtain ⟨oq8, hq8, h⟩ := obind h
          cases oq8 with
          | none => cases h
          | some q8 =>
            try dsimp only at h
            refine pE_gfS rfl rfl hq8 ?_
            refine pE_jump 1 (pc' := 43) (ls' := [some (.ref a), some (.int p0), some (.int p1), some (.int p2), some (.int p3), some (.ref q2)]) (st' := [.ref a, .ref q8]) (fun _ => rfl) ?_
            obtain ⟨oq29, hq29, h⟩ := obind h
            cases oq29 with
            | none => cases h
            | some q29 =>
              try dsimp only at h
              refine pE_gfS rfl rfl hq29 ?_
              obtain ⟨oq30, hq30, h⟩ := obind h
              cases oq30 with
              | none => cases h
              | some q30 =>
                try dsimp only at h
                refine pE_gfS rfl rfl hq30 ?_
                refine pE_jump 2 (pc' := 52) (ls' := [some (.ref a), some (.int p0), some (.int p1), some (.int p2), some (.int p3), some (.ref q2)]) (st' := [.int p2, .ref q2, .ref q30, .ref q8]) (fun _ => rfl) ?_
                obtain ⟨⟨v41, S40⟩, hv41, h⟩ := obind h
                try dsimp only at h
                refine pE_iv (Bs := [.int p2]) (st := [.ref q30, .ref q8]) 1 rfl (Or.inl ⟨rfl, rfl⟩) rfl rfl (Nat.le_of_ble_eq_true rfl) (Nat.le_of_ble_eq_true rfl) (g_Plan_cableTo hv41) (f_Plan_cableTo sp (d + 4) N S7 q2 p2 _ hv41) ?_
                refine pE_jump 1 (pc' := 56) (ls' := [some (.ref a), some (.int p0), some (.int p1), some (.int p2), some (.int p3), some (.ref q2)]) (st' := [.ref a, .int v41, .ref q30, .ref q8]) (fun _ => rfl) ?_
                obtain ⟨oq42, hq42, h⟩ := obind h
                cases oq42 with
                | none => cases h
                | some q42 =>
                  try dsimp only at h
                  refine pE_gfS rfl rfl hq42 ?_
                  refine pE_jump 2 (pc' := 62) (ls' := [some (.ref a), some (.int p0), some (.int p1), some (.int p2), some (.int p3), some (.ref q2)]) (st' := [.int p2, .ref q2, .ref q42, .int v41, .ref q30, .ref q8]) (fun _ => rfl) ?_
                  obtain ⟨⟨v46, S45⟩, hv46, h⟩ := obind h
                  try dsimp only at h
                  refine pE_iv (Bs := [.int p2]) (st := [.ref q42, .int v41, .ref q30, .ref q8]) 1 rfl (Or.inl ⟨rfl, rfl⟩) rfl rfl (Nat.le_of_ble_eq_true rfl) (Nat.le_of_ble_eq_true rfl) (g_Plan_cableTo hv46) (f_Plan_cableTo sp (d + 4) N S40 q2 p2 _ hv46) ?_
                  obtain ⟨⟨v48, S47⟩, hv48, h⟩ := obind h
                  try dsimp only at h
                  refine pE_iv (Bs := [.int v46]) (st := [.int v41, .ref q30, .ref q8]) 1 rfl (Or.inl ⟨rfl, rfl⟩) rfl rfl (Nat.le_of_ble_eq_true rfl) (Nat.le_of_ble_eq_true rfl) (g_Bench_openPairs hv48) (f_Bench_openPairs sp d N S45 q42 v46 _ hv48) ?_
                  obtain ⟨S49, hS49, h⟩ := obind h
                  refine pE_iv (Bs := [.ref q30, .int v41, .int v48]) (st := []) 1 rfl (Or.inl ⟨rfl, rfl⟩) rfl rfl (Nat.le_of_ble_eq_true rfl) (Nat.le_of_ble_eq_true rfl) (g_Mover_work hS49) (f_Mover_work sp (d + 2) N S47 q8 q30 v41 v48 _ hS49) ?_
                  refine pE_jump 2 (pc' := 74) (ls' := [some (.ref a), some (.int p0), some (.int p1), some (.int p2), some (.int p3), some (.ref q2)]) (st' := [.int (-1), .int p3]) (fun _ => rfl) ?_
                  refine pE_br (¬ p3 = (-1)) rfl rfl (fun c55 => ?_) (fun c55 => ?_)
                  · rw [if_neg c55] at h
                    refine pE_jump 1 (pc' := 88) (ls' := [some (.ref a), some (.int p0), some (.int p1), some (.int p2), some (.int p3), some (.ref q2)]) (st' := [.ref a]) (fun _ => rfl) ?_
                    obtain ⟨oq52, hq52, h⟩ := obind h
                    cases oq52 with
                    | none => cases h
                    | some q52 =>
                      try dsimp only at h
                      refine pE_gfS rfl rfl hq52 ?_
                      refine pE_jump 1 (pc' := 93) (ls' := [some (.ref a), some (.int p0), some (.int p1), some (.int p2), some (.int p3), some (.ref q2)]) (st' := [.int p3, .ref q52]) (fun _ => rfl) ?_
                      obtain ⟨⟨v54, S53⟩, hv54, h⟩ := obind h
                      try dsimp only at h
                      refine pE_iv (Bs := [.int p3]) (st := []) 1 rfl (Or.inl ⟨rfl, rfl⟩) rfl rfl (Nat.le_of_ble_eq_true rfl) (Nat.le_of_ble_eq_true rfl) (g_Mover_moveAt hv54) (f_Mover_moveAt sp (d + 4) N S49 q52 p3 _ hv54) ?_
                      refine pE_weak [none, none, none, none, none, none] trivial ?_
                      exact f_BP_moves_96 sp d N v54 S53 _ h
                  · have c55 := Decidable.not_not.mp c55
                    rw [if_pos c55] at h
                    refine pE_jump 1 (pc' := 78) (ls' := [some (.ref a), some (.int p0), some (.int p1), some (.int p2), some (.int p3), some (.ref q2)]) (st' := [.ref a]) (fun _ => rfl) ?_
                    obtain ⟨oq50, hq50, h⟩ := obind h
                    cases oq50 with
                    | none => cases h
                    | some q50 =>
                      try dsimp only at h
                      refine pE_gfS rfl rfl hq50 ?_
                      obtain ⟨v51, hv51, h⟩ := obind h
                      refine pE_gfI rfl rfl hv51 ?_
                      refine pE_jump 1 (pc' := 96) (ls' := [some (.ref a), some (.int p0), some (.int p1), some (.int p2), some (.int p3), some (.ref q2)]) (st' := [.int v51]) (fun _ => rfl) ?_
                      refine pE_weak [none, none, none, none, none, none] trivial ?_
                      exact f_BP_moves_96 sp d N v51 S49 _ h
    · have c56 := Decidable.not_not.mp c56
      rw [if_pos c56] at h
      refine pE_weak [none, none, none, none, none, none] trivial ?_
      exact f_BP_moves_23 sp d N S3 _ h
