def F_M_fits_58 (N : Nat)   (S : pm_S) : Option (Int32 × pm_S) :=
    some (1, S)
set_option maxHeartbeats 4000000 in
set_option maxRecDepth 20000 in
theorem f_M_fits_58 (sp : pm_I → List Value → pm_S → pm_O → Prop) (d N : Nat)   (S : pm_S)  (r : (Int32 × pm_S)) (h : F_M_fits_58 N   S = some r) : pmE pG (pm_rel pG sp (d + 7)) mi_M_fits 58 [none, none, none, none, none] [] S (some (.int r.1), r.2) := by
  unfold F_M_fits_58 at h
  refine pE_jump 1 (pc' := 59) (ls' := [none, none, none, none, none]) (st' := [.int 1]) (fun _ => rfl) ?_
  cases h
  exact pE_ret rfl rfl rfl
def F_M_fits_50 (N : Nat)   (S : pm_S) : Option (Int32 × pm_S) :=
    some (0, S)
set_option maxHeartbeats 4000000 in
set_option maxRecDepth 20000 in
theorem f_M_fits_50 (sp : pm_I → List Value → pm_S → pm_O → Prop) (d N : Nat)   (S : pm_S)  (r : (Int32 × pm_S)) (h : F_M_fits_50 N   S = some r) : pmE pG (pm_rel pG sp (d + 7)) mi_M_fits 50 [none, none, none, none, none] [] S (some (.int r.1), r.2) := by
  unfold F_M_fits_50 at h
  refine pE_jump 1 (pc' := 51) (ls' := [none, none, none, none, none]) (st' := [.int 0]) (fun _ => rfl) ?_
  cases h
  exact pE_ret rfl rfl rfl
def B_M_fits_2 (N : Nat)  (rec2 : Int32 → pm_S → Option (Int32 × pm_S)) (x0 : Nat) (x1 : Int32) (x2 : Int32) (x3 : Int32) (S : pm_S) : Option (Int32 × pm_S) :=
    (oR S x0 11 44).bind fun oq1 => match oq1 with
    | none => none
    | some q1 =>
    (aI [0, 6] S q1 x1).bind fun v2 =>
    if v2 ≤ x3 then
    F_M_fits_58 N S
    else
    ((oR S x0 11 45).bind fun oq3 => match oq3 with
    | none => none
    | some q3 =>
    (aI [0, 6] S q3 ((24 * x1) + x3)).bind fun v4 =>
    (oR S x0 11 47).bind fun oq5 => match oq5 with
    | none => none
    | some q5 =>
    (aI [2, 3] S q5 ((24 * x1) + x3)).bind fun v6 =>
    (F_M_wouldIn N S x0 x1 v4 x2 v6).bind fun (v8, S7) =>
    (oR S7 x0 11 46).bind fun oq9 => match oq9 with
    | none => none
    | some q9 =>
    (aI [0, 6] S7 q9 ((24 * x1) + x3)).bind fun v10 =>
    if v8 = v10 then
    rec2 (x3 + 1) S7
    else
    F_M_fits_50 N S7)
def F_M_fits_2 (N : Nat)  (x0 : Nat) (x1 : Int32) (x2 : Int32) : Nat → Int32 → pm_S → Option (Int32 × pm_S)
  | 0 => fun _ _ => none
  | n + 1 => fun x3 S => B_M_fits_2 N  (F_M_fits_2 N  x0 x1 x2 n) x0 x1 x2 x3 S
set_option maxHeartbeats 4000000 in
set_option maxRecDepth 20000 in
theorem f_M_fits_2 (sp : pm_I → List Value → pm_S → pm_O → Prop) (d N : Nat)  (x0 : Nat) (x1 : Int32) (x2 : Int32)  : ∀ (n : Nat) (x3 : Int32) (S : pm_S) (r : (Int32 × pm_S)), F_M_fits_2 N  x0 x1 x2 n x3 S = some r → pmE pG (pm_rel pG sp (d + 7)) mi_M_fits 2 [some (.ref x0), some (.int x1), some (.int x2), some (.int x3), none] [] S (some (.int r.1), r.2) := by
  intro n
  induction n with
  | zero =>
    intro x3 S r h
    cases h
  | succ n ih =>
    intro x3 S r h
    replace h : B_M_fits_2 N  (F_M_fits_2 N  x0 x1 x2 n) x0 x1 x2 x3 S = some r := h
    have hrec2 := ih
    generalize F_M_fits_2 N  x0 x1 x2 n = rec2 at h hrec2
    unfold B_M_fits_2 at h
    refine pE_jump 2 (pc' := 4) (ls' := [some (.ref x0), some (.int x1), some (.int x2), some (.int x3), none]) (st' := [.ref x0, .int x3]) (fun _ => rfl) ?_
    obtain ⟨oq1, hq1, h⟩ := obind h
    cases oq1 with
    | none => cases h
    | some q1 =>
      try dsimp only at h
      refine pE_gfS rfl rfl hq1 ?_
      refine pE_jump 1 (pc' := 8) (ls' := [some (.ref x0), some (.int x1), some (.int x2), some (.int x3), none]) (st' := [.int x1, .ref q1, .int x3]) (fun _ => rfl) ?_
      obtain ⟨v2, hv2, h⟩ := obind h
      refine pE_aI rfl rfl hv2 ?_
      refine pE_br (v2 ≤ x3) rfl rfl (fun c12 => ?_) (fun c12 => ?_)
      · rw [if_pos c12] at h
        refine pE_weak [none, none, none, none, none] trivial ?_
        exact f_M_fits_58 sp d N S _ h
      · rw [if_neg c12] at h
        refine pE_jump 9 (pc' := 23) (ls' := [some (.ref x0), some (.int x1), some (.int x2), some (.int x3), some (.int ((24 * x1) + x3))]) (st' := [.ref x0, .int x1, .ref x0]) (fun _ => rfl) ?_
        obtain ⟨oq3, hq3, h⟩ := obind h
        cases oq3 with
        | none => cases h
        | some q3 =>
          try dsimp only at h
          refine pE_gfS rfl rfl hq3 ?_
          refine pE_jump 1 (pc' := 28) (ls' := [some (.ref x0), some (.int x1), some (.int x2), some (.int x3), some (.int ((24 * x1) + x3))]) (st' := [.int ((24 * x1) + x3), .ref q3, .int x1, .ref x0]) (fun _ => rfl) ?_
          obtain ⟨v4, hv4, h⟩ := obind h
          refine pE_aI rfl rfl hv4 ?_
          refine pE_jump 2 (pc' := 31) (ls' := [some (.ref x0), some (.int x1), some (.int x2), some (.int x3), some (.int ((24 * x1) + x3))]) (st' := [.ref x0, .int x2, .int v4, .int x1, .ref x0]) (fun _ => rfl) ?_
          obtain ⟨oq5, hq5, h⟩ := obind h
          cases oq5 with
          | none => cases h
          | some q5 =>
            try dsimp only at h
            refine pE_gfS rfl rfl hq5 ?_
            refine pE_jump 1 (pc' := 36) (ls' := [some (.ref x0), some (.int x1), some (.int x2), some (.int x3), some (.int ((24 * x1) + x3))]) (st' := [.int ((24 * x1) + x3), .ref q5, .int x2, .int v4, .int x1, .ref x0]) (fun _ => rfl) ?_
            obtain ⟨v6, hv6, h⟩ := obind h
            refine pE_aI rfl rfl hv6 ?_
            obtain ⟨⟨v8, S7⟩, hv8, h⟩ := obind h
            try dsimp only at h
            refine pE_iv (Bs := [.int x1, .int v4, .int x2, .int v6]) (st := []) 1 rfl (Or.inl ⟨rfl, rfl⟩) rfl rfl (Nat.le_of_ble_eq_true rfl) (Nat.le_of_ble_eq_true rfl) (g_M_wouldIn hv8) (f_M_wouldIn sp d N S x0 x1 v4 x2 v6 _ hv8) ?_
            refine pE_jump 1 (pc' := 41) (ls' := [some (.ref x0), some (.int x1), some (.int x2), some (.int x3), some (.int ((24 * x1) + x3))]) (st' := [.ref x0, .int v8]) (fun _ => rfl) ?_
            obtain ⟨oq9, hq9, h⟩ := obind h
            cases oq9 with
            | none => cases h
            | some q9 =>
              try dsimp only at h
              refine pE_gfS rfl rfl hq9 ?_
              refine pE_jump 1 (pc' := 46) (ls' := [some (.ref x0), some (.int x1), some (.int x2), some (.int x3), some (.int ((24 * x1) + x3))]) (st' := [.int ((24 * x1) + x3), .ref q9, .int v8]) (fun _ => rfl) ?_
              obtain ⟨v10, hv10, h⟩ := obind h
              refine pE_aI rfl rfl hv10 ?_
              refine pE_br (v8 = v10) rfl rfl (fun c11 => ?_) (fun c11 => ?_)
              · rw [if_pos c11] at h
                refine pE_jump 2 (pc' := 2) (ls' := [some (.ref x0), some (.int x1), some (.int x2), some (.int (x3 + 1)), some (.int ((24 * x1) + x3))]) (st' := []) (fun _ => rfl) ?_
                refine pE_weak [some (.ref x0), some (.int x1), some (.int x2), some (.int (x3 + 1)), none] ⟨rfl, ⟨rfl, ⟨rfl, ⟨rfl, trivial⟩⟩⟩⟩ ?_
                exact hrec2 (x3 + 1) S7 _ h
              · rw [if_neg c11] at h
                refine pE_weak [none, none, none, none, none] trivial ?_
                exact f_M_fits_50 sp d N S7 _ h
def F_M_fits (N : Nat) (S : pm_S) (a : Nat) (p0 : Int32) (p1 : Int32) : Option (Int32 × pm_S) :=
    if rcv S a 11 = true then
    (F_M_fits_2 N a p0 p1 N 0 S)
    else none
theorem g_M_fits {N : Nat} {S : pm_S} {a : Nat} {p0 : Int32} {p1 : Int32} {r : (Int32 × pm_S)} (h : F_M_fits N S a p0 p1 = some r) : rcv S a 11 = true := by
  unfold F_M_fits at h
  by_cases c : rcv S a 11 = true
  · exact c
  · rw [if_neg c] at h; cases h
set_option maxHeartbeats 4000000 in
set_option maxRecDepth 20000 in
theorem f_M_fits (sp : pm_I → List Value → pm_S → pm_O → Prop) (d N : Nat) (S : pm_S) (a : Nat) (p0 : Int32) (p1 : Int32) (r : (Int32 × pm_S)) (h : F_M_fits N S a p0 p1 = some r) : pm_rel pG sp (d + 8) mi_M_fits [.ref a, .int p0, .int p1] S (some (.int r.1), r.2) := by
  have hg := g_M_fits h
  unfold F_M_fits at h
  rw [if_pos hg] at h
  refine pE_rel (d := d + 7) ?_
  show pmE pG _ mi_M_fits 0 [some (.ref a), some (.int p0), some (.int p1), none, none] [] S _
  refine pE_jump 2 (pc' := 2) (ls' := [some (.ref a), some (.int p0), some (.int p1), some (.int 0), none]) (st' := []) (fun _ => rfl) ?_
  exact f_M_fits_2 sp d N a p0 p1 N 0 S _ h
def F_M_fitting_73 (N : Nat)  (t0 : Int32) (S : pm_S) : Option (Int32 × pm_S) :=
    some (t0, S)
set_option maxHeartbeats 4000000 in
set_option maxRecDepth 20000 in
theorem f_M_fitting_73 (sp : pm_I → List Value → pm_S → pm_O → Prop) (d N : Nat)  (t0 : Int32) (S : pm_S)  (r : (Int32 × pm_S)) (h : F_M_fitting_73 N  t0 S = some r) : pmE pG (pm_rel pG sp (d + 8)) mi_M_fitting 73 [none, none, none, none, none] [.int t0] S (some (.int r.1), r.2) := by
  unfold F_M_fitting_73 at h
  cases h
  exact pE_ret rfl rfl rfl
def F_M_fitting_63 (N : Nat)  (x2 : Int32) (x3 : Int32) (S : pm_S) : Option (Int32 × pm_S) :=
    if x2 = (-1) then
    F_M_fitting_73 N x3 S
    else
    F_M_fitting_73 N (-1) S
set_option maxHeartbeats 4000000 in
set_option maxRecDepth 20000 in
theorem f_M_fitting_63 (sp : pm_I → List Value → pm_S → pm_O → Prop) (d N : Nat)  (x2 : Int32) (x3 : Int32) (S : pm_S)  (r : (Int32 × pm_S)) (h : F_M_fitting_63 N  x2 x3 S = some r) : pmE pG (pm_rel pG sp (d + 8)) mi_M_fitting 63 [none, none, some (.int x2), some (.int x3), none] [] S (some (.int r.1), r.2) := by
  unfold F_M_fitting_63 at h
  refine pE_jump 2 (pc' := 65) (ls' := [none, none, some (.int x2), some (.int x3), none]) (st' := [.int (-1), .int x2]) (fun _ => rfl) ?_
  refine pE_br (¬ x2 = (-1)) rfl rfl (fun c6 => ?_) (fun c6 => ?_)
  · rw [if_neg c6] at h
    refine pE_jump 1 (pc' := 73) (ls' := [none, none, some (.int x2), some (.int x3), none]) (st' := [.int (-1)]) (fun _ => rfl) ?_
    refine pE_weak [none, none, none, none, none] trivial ?_
    exact f_M_fitting_73 sp d N (-1) S _ h
  · have c6 := Decidable.not_not.mp c6
    rw [if_pos c6] at h
    refine pE_jump 2 (pc' := 73) (ls' := [none, none, some (.int x2), some (.int x3), none]) (st' := [.int x3]) (fun _ => rfl) ?_
    refine pE_weak [none, none, none, none, none] trivial ?_
    exact f_M_fitting_73 sp d N x3 S _ h
def F_M_fitting_57 (N : Nat) (rec20 : Int32 → Int32 → pm_S → Option (Int32 × pm_S)) (x0 : Nat) (x1 : Int32) (x2 : Int32) (x3 : Int32) (x4 : Int32) (S : pm_S) : Option (Int32 × pm_S) :=
    rec20 x3 (x4 + 1) S
set_option maxHeartbeats 4000000 in
set_option maxRecDepth 20000 in
theorem f_M_fitting_57 (sp : pm_I → List Value → pm_S → pm_O → Prop) (d N : Nat) (rec20 : Int32 → Int32 → pm_S → Option (Int32 × pm_S)) (x0 : Nat) (x1 : Int32) (x2 : Int32) (x3 : Int32) (x4 : Int32) (S : pm_S) (hrec20 : ∀ (y1 : Int32) (y2 : Int32) (U : pm_S) (r : (Int32 × pm_S)), rec20 y1 y2 U = some r → pmE pG (pm_rel pG sp (d + 8)) mi_M_fitting 20 [some (.ref x0), some (.int x1), some (.int x2), some (.int y1), some (.int y2)] [] U (some (.int r.1), r.2)) (r : (Int32 × pm_S)) (h : F_M_fitting_57 N rec20 x0 x1 x2 x3 x4 S = some r) : pmE pG (pm_rel pG sp (d + 8)) mi_M_fitting 57 [some (.ref x0), some (.int x1), some (.int x2), some (.int x3), some (.int x4)] [] S (some (.int r.1), r.2) := by
  unfold F_M_fitting_57 at h
  refine pE_jump 2 (pc' := 20) (ls' := [some (.ref x0), some (.int x1), some (.int x2), some (.int x3), some (.int (x4 + 1))]) (st' := []) (fun _ => rfl) ?_
  exact hrec20 x3 (x4 + 1) S _ h
def F_M_fitting_51 (N : Nat)  (x4 : Int32) (S : pm_S) : Option (Int32 × pm_S) :=
    some (x4, S)
set_option maxHeartbeats 4000000 in
set_option maxRecDepth 20000 in
theorem f_M_fitting_51 (sp : pm_I → List Value → pm_S → pm_O → Prop) (d N : Nat)  (x4 : Int32) (S : pm_S)  (r : (Int32 × pm_S)) (h : F_M_fitting_51 N  x4 S = some r) : pmE pG (pm_rel pG sp (d + 8)) mi_M_fitting 51 [none, none, none, none, some (.int x4)] [] S (some (.int r.1), r.2) := by
  unfold F_M_fitting_51 at h
  refine pE_jump 1 (pc' := 53) (ls' := [none, none, none, none, some (.int x4)]) (st' := [.int x4]) (fun _ => rfl) ?_
  cases h
  exact pE_ret rfl rfl rfl
def B_M_fitting_20 (N : Nat)  (rec20 : Int32 → Int32 → pm_S → Option (Int32 × pm_S)) (x0 : Nat) (x1 : Int32) (x2 : Int32) (x3 : Int32) (x4 : Int32) (S : pm_S) : Option (Int32 × pm_S) :=
    (oR S x0 11 20).bind fun oq4 => match oq4 with
    | none => none
    | some q4 =>
    (aI [0, 6] S q4 x1).bind fun v5 =>
    if (1 <<< (v5 &&& 31)) ≤ x4 then
    F_M_fitting_63 N x2 x3 S
    else
    ((F_M_fits N S x0 x1 x4).bind fun (v8, S7) =>
    if v8 = 0 then
    F_M_fitting_57 N rec20 x0 x1 x2 x3 x4 S7
    else
    (if x3 = x2 then
    F_M_fitting_51 N x4 S7
    else
    F_M_fitting_57 N rec20 x0 x1 x2 (x3 + 1) x4 S7))
def F_M_fitting_20 (N : Nat)  (x0 : Nat) (x1 : Int32) (x2 : Int32) : Nat → Int32 → Int32 → pm_S → Option (Int32 × pm_S)
  | 0 => fun _ _ _ => none
  | n + 1 => fun x3 x4 S => B_M_fitting_20 N  (F_M_fitting_20 N  x0 x1 x2 n) x0 x1 x2 x3 x4 S
set_option maxHeartbeats 4000000 in
set_option maxRecDepth 20000 in
theorem f_M_fitting_20 (sp : pm_I → List Value → pm_S → pm_O → Prop) (d N : Nat)  (x0 : Nat) (x1 : Int32) (x2 : Int32)  : ∀ (n : Nat) (x3 : Int32) (x4 : Int32) (S : pm_S) (r : (Int32 × pm_S)), F_M_fitting_20 N  x0 x1 x2 n x3 x4 S = some r → pmE pG (pm_rel pG sp (d + 8)) mi_M_fitting 20 [some (.ref x0), some (.int x1), some (.int x2), some (.int x3), some (.int x4)] [] S (some (.int r.1), r.2) := by
  intro n
  induction n with
  | zero =>
    intro x3 x4 S r h
    cases h
  | succ n ih =>
    intro x3 x4 S r h
    replace h : B_M_fitting_20 N  (F_M_fitting_20 N  x0 x1 x2 n) x0 x1 x2 x3 x4 S = some r := h
    have hrec20 := ih
    generalize F_M_fitting_20 N  x0 x1 x2 n = rec20 at h hrec20
    unfold B_M_fitting_20 at h
    refine pE_jump 3 (pc' := 24) (ls' := [some (.ref x0), some (.int x1), some (.int x2), some (.int x3), some (.int x4)]) (st' := [.ref x0, .int 1, .int x4]) (fun _ => rfl) ?_
    obtain ⟨oq4, hq4, h⟩ := obind h
    cases oq4 with
    | none => cases h
    | some q4 =>
      try dsimp only at h
      refine pE_gfS rfl rfl hq4 ?_
      refine pE_jump 1 (pc' := 28) (ls' := [some (.ref x0), some (.int x1), some (.int x2), some (.int x3), some (.int x4)]) (st' := [.int x1, .ref q4, .int 1, .int x4]) (fun _ => rfl) ?_
      obtain ⟨v5, hv5, h⟩ := obind h
      refine pE_aI rfl rfl hv5 ?_
      refine pE_jump 1 (pc' := 30) (ls' := [some (.ref x0), some (.int x1), some (.int x2), some (.int x3), some (.int x4)]) (st' := [.int (1 <<< (v5 &&& 31)), .int x4]) (fun _ => rfl) ?_
      refine pE_br ((1 <<< (v5 &&& 31)) ≤ x4) rfl rfl (fun c11 => ?_) (fun c11 => ?_)
      · rw [if_pos c11] at h
        refine pE_weak [none, none, some (.int x2), some (.int x3), none] ⟨rfl, ⟨rfl, trivial⟩⟩ ?_
        exact f_M_fitting_63 sp d N x2 x3 S _ h
      · rw [if_neg c11] at h
        refine pE_jump 3 (pc' := 37) (ls' := [some (.ref x0), some (.int x1), some (.int x2), some (.int x3), some (.int x4)]) (st' := [.int x4, .int x1, .ref x0]) (fun _ => rfl) ?_
        obtain ⟨⟨v8, S7⟩, hv8, h⟩ := obind h
        try dsimp only at h
        refine pE_iv (Bs := [.int x1, .int x4]) (st := []) 1 rfl (Or.inl ⟨rfl, rfl⟩) rfl rfl (Nat.le_of_ble_eq_true rfl) (Nat.le_of_ble_eq_true rfl) (g_M_fits hv8) (f_M_fits sp d N S x0 x1 x4 _ hv8) ?_
        refine pE_br (¬ v8 = 0) rfl rfl (fun c10 => ?_) (fun c10 => ?_)
        · rw [if_neg c10] at h
          refine pE_jump 2 (pc' := 48) (ls' := [some (.ref x0), some (.int x1), some (.int x2), some (.int x3), some (.int x4)]) (st' := [.int x2, .int x3]) (fun _ => rfl) ?_
          refine pE_br (¬ x3 = x2) rfl rfl (fun c9 => ?_) (fun c9 => ?_)
          · rw [if_neg c9] at h
            refine pE_jump 1 (pc' := 57) (ls' := [some (.ref x0), some (.int x1), some (.int x2), some (.int (x3 + 1)), some (.int x4)]) (st' := []) (fun _ => rfl) ?_
            exact f_M_fitting_57 sp d N rec20 x0 x1 x2 (x3 + 1) x4 S7 hrec20 _ h
          · have c9 := Decidable.not_not.mp c9
            rw [if_pos c9] at h
            refine pE_weak [none, none, none, none, some (.int x4)] ⟨rfl, trivial⟩ ?_
            exact f_M_fitting_51 sp d N x4 S7 _ h
        · have c10 := Decidable.not_not.mp c10
          rw [if_pos c10] at h
          refine pE_jump 1 (pc' := 57) (ls' := [some (.ref x0), some (.int x1), some (.int x2), some (.int x3), some (.int x4)]) (st' := []) (fun _ => rfl) ?_
          exact f_M_fitting_57 sp d N rec20 x0 x1 x2 x3 x4 S7 hrec20 _ h
def F_M_fitting (N : Nat) (S : pm_S) (a : Nat) (p0 : Int32) (p1 : Int32) : Option (Int32 × pm_S) :=
    if rcv S a 11 = true then
    ((wF S a 11 0 .int (.int 0)).bind fun S1 =>
    (F_M_isPlan N S1 a p0).bind fun (v3, S2) =>
    if v3 = 0 then
    some ((-1), S2)
    else
    F_M_fitting_20 N a p0 p1 N 0 0 S2)
    else none
theorem g_M_fitting {N : Nat} {S : pm_S} {a : Nat} {p0 : Int32} {p1 : Int32} {r : (Int32 × pm_S)} (h : F_M_fitting N S a p0 p1 = some r) : rcv S a 11 = true := by
  unfold F_M_fitting at h
  by_cases c : rcv S a 11 = true
  · exact c
  · rw [if_neg c] at h; cases h
set_option maxHeartbeats 4000000 in
set_option maxRecDepth 20000 in
theorem f_M_fitting (sp : pm_I → List Value → pm_S → pm_O → Prop) (d N : Nat) (S : pm_S) (a : Nat) (p0 : Int32) (p1 : Int32) (r : (Int32 × pm_S)) (h : F_M_fitting N S a p0 p1 = some r) : pm_rel pG sp (d + 9) mi_M_fitting [.ref a, .int p0, .int p1] S (some (.int r.1), r.2) := by
  have hg := g_M_fitting h
  unfold F_M_fitting at h
  rw [if_pos hg] at h
  refine pE_rel (d := d + 8) ?_
  show pmE pG _ mi_M_fitting 0 [some (.ref a), some (.int p0), some (.int p1), none, none] [] S _
  refine pE_jump 2 (pc' := 2) (ls' := [some (.ref a), some (.int p0), some (.int p1), none, none]) (st' := [.int 0, .ref a]) (fun _ => rfl) ?_
  obtain ⟨S1, hS1, h⟩ := obind h
  refine pE_pf rfl rfl rfl hS1 ?_
  refine pE_jump 2 (pc' := 7) (ls' := [some (.ref a), some (.int p0), some (.int p1), none, none]) (st' := [.int p0, .ref a]) (fun _ => rfl) ?_
  obtain ⟨⟨v3, S2⟩, hv3, h⟩ := obind h
  try dsimp only at h
  refine pE_iv (Bs := [.int p0]) (st := []) 1 rfl (Or.inl ⟨rfl, rfl⟩) rfl rfl (Nat.le_of_ble_eq_true rfl) (Nat.le_of_ble_eq_true rfl) (g_M_isPlan hv3) (f_M_isPlan sp (d + 7) N S1 a p0 _ hv3) ?_
  refine pE_br (¬ v3 = 0) rfl rfl (fun c12 => ?_) (fun c12 => ?_)
  · rw [if_neg c12] at h
    refine pE_jump 4 (pc' := 20) (ls' := [some (.ref a), some (.int p0), some (.int p1), some (.int 0), some (.int 0)]) (st' := []) (fun _ => rfl) ?_
    exact f_M_fitting_20 sp d N a p0 p1 N 0 0 S2 _ h
  · have c12 := Decidable.not_not.mp c12
    rw [if_pos c12] at h
    refine pE_jump 1 (pc' := 14) (ls' := [some (.ref a), some (.int p0), some (.int p1), none, none]) (st' := [.int (-1)]) (fun _ => rfl) ?_
    cases h
    exact pE_ret rfl rfl rfl
def F_M_fewest_91 (N : Nat)  (x2 : Int32) (S : pm_S) : Option (Int32 × pm_S) :=
    some (x2, S)
set_option maxHeartbeats 4000000 in
set_option maxRecDepth 20000 in
theorem f_M_fewest_91 (sp : pm_I → List Value → pm_S → pm_O → Prop) (d N : Nat)  (x2 : Int32) (S : pm_S)  (r : (Int32 × pm_S)) (h : F_M_fewest_91 N  x2 S = some r) : pmE pG (pm_rel pG sp (d + 8)) mi_M_fewest 91 [none, none, some (.int x2), none, none] [] S (some (.int r.1), r.2) := by
  unfold F_M_fewest_91 at h
  refine pE_jump 1 (pc' := 92) (ls' := [none, none, some (.int x2), none, none]) (st' := [.int x2]) (fun _ => rfl) ?_
  cases h
  exact pE_ret rfl rfl rfl
def F_M_fewest_85 (N : Nat) (rec19 : Int32 → Int32 → pm_S → Option (Int32 × pm_S)) (x0 : Nat) (x1 : Int32) (x2 : Int32) (x3 : Int32) (S : pm_S) : Option (Int32 × pm_S) :=
    rec19 x2 (x3 + 1) S
set_option maxHeartbeats 4000000 in
set_option maxRecDepth 20000 in
theorem f_M_fewest_85 (sp : pm_I → List Value → pm_S → pm_O → Prop) (d N : Nat) (rec19 : Int32 → Int32 → pm_S → Option (Int32 × pm_S)) (x0 : Nat) (x1 : Int32) (x2 : Int32) (x3 : Int32) (S : pm_S) (hrec19 : ∀ (y1 : Int32) (y2 : Int32) (U : pm_S) (r : (Int32 × pm_S)), rec19 y1 y2 U = some r → pmE pG (pm_rel pG sp (d + 8)) mi_M_fewest 19 [some (.ref x0), some (.int x1), some (.int y1), some (.int y2), none] [] U (some (.int r.1), r.2)) (r : (Int32 × pm_S)) (h : F_M_fewest_85 N rec19 x0 x1 x2 x3 S = some r) : pmE pG (pm_rel pG sp (d + 8)) mi_M_fewest 85 [some (.ref x0), some (.int x1), some (.int x2), some (.int x3), none] [] S (some (.int r.1), r.2) := by
  unfold F_M_fewest_85 at h
  refine pE_jump 2 (pc' := 19) (ls' := [some (.ref x0), some (.int x1), some (.int x2), some (.int (x3 + 1)), none]) (st' := []) (fun _ => rfl) ?_
  exact hrec19 x2 (x3 + 1) S _ h
def F_M_fewest_74 (N : Nat) (rec19 : Int32 → Int32 → pm_S → Option (Int32 × pm_S)) (x0 : Nat) (x1 : Int32) (x2 : Int32) (x3 : Int32) (S : pm_S) : Option (Int32 × pm_S) :=
    (F_M_fits N S x0 x1 x3).bind fun (v7, S6) =>
    if v7 = 0 then
    F_M_fewest_85 N rec19 x0 x1 x2 x3 S6
    else
    F_M_fewest_85 N rec19 x0 x1 x3 x3 S6
set_option maxHeartbeats 4000000 in
set_option maxRecDepth 20000 in
theorem f_M_fewest_74 (sp : pm_I → List Value → pm_S → pm_O → Prop) (d N : Nat) (rec19 : Int32 → Int32 → pm_S → Option (Int32 × pm_S)) (x0 : Nat) (x1 : Int32) (x2 : Int32) (x3 : Int32) (S : pm_S) (hrec19 : ∀ (y1 : Int32) (y2 : Int32) (U : pm_S) (r : (Int32 × pm_S)), rec19 y1 y2 U = some r → pmE pG (pm_rel pG sp (d + 8)) mi_M_fewest 19 [some (.ref x0), some (.int x1), some (.int y1), some (.int y2), none] [] U (some (.int r.1), r.2)) (r : (Int32 × pm_S)) (h : F_M_fewest_74 N rec19 x0 x1 x2 x3 S = some r) : pmE pG (pm_rel pG sp (d + 8)) mi_M_fewest 74 [some (.ref x0), some (.int x1), some (.int x2), some (.int x3), none] [] S (some (.int r.1), r.2) := by
  unfold F_M_fewest_74 at h
  refine pE_jump 3 (pc' := 77) (ls' := [some (.ref x0), some (.int x1), some (.int x2), some (.int x3), none]) (st' := [.int x3, .int x1, .ref x0]) (fun _ => rfl) ?_
  obtain ⟨⟨v7, S6⟩, hv7, h⟩ := obind h
  try dsimp only at h
  refine pE_iv (Bs := [.int x1, .int x3]) (st := []) 1 rfl (Or.inl ⟨rfl, rfl⟩) rfl rfl (Nat.le_of_ble_eq_true rfl) (Nat.le_of_ble_eq_true rfl) (g_M_fits hv7) (f_M_fits sp d N S x0 x1 x3 _ hv7) ?_
  refine pE_br (v7 = 0) rfl rfl (fun c8 => ?_) (fun c8 => ?_)
  · rw [if_pos c8] at h
    exact f_M_fewest_85 sp d N rec19 x0 x1 x2 x3 S6 hrec19 _ h
  · rw [if_neg c8] at h
    refine pE_jump 2 (pc' := 85) (ls' := [some (.ref x0), some (.int x1), some (.int x3), some (.int x3), none]) (st' := []) (fun _ => rfl) ?_
    exact f_M_fewest_85 sp d N rec19 x0 x1 x3 x3 S6 hrec19 _ h
def F_M_fewest_49 (N : Nat) (rec19 : Int32 → Int32 → pm_S → Option (Int32 × pm_S)) (x0 : Nat) (x1 : Int32) (x2 : Int32) (x3 : Int32) (t0 : Int32) (S : pm_S) : Option (Int32 × pm_S) :=
    if t0 < 0 then
    F_M_fewest_74 N rec19 x0 x1 x2 x3 S
    else
    (if t0 = 0 then
    (if ((x3 &&& (x3 ^^^ x2)) &&& (-(x3 ^^^ x2))) = 0 then
    F_M_fewest_85 N rec19 x0 x1 x2 x3 S
    else
    F_M_fewest_74 N rec19 x0 x1 x2 x3 S)
    else
    F_M_fewest_85 N rec19 x0 x1 x2 x3 S)
set_option maxHeartbeats 4000000 in
set_option maxRecDepth 20000 in
theorem f_M_fewest_49 (sp : pm_I → List Value → pm_S → pm_O → Prop) (d N : Nat) (rec19 : Int32 → Int32 → pm_S → Option (Int32 × pm_S)) (x0 : Nat) (x1 : Int32) (x2 : Int32) (x3 : Int32) (t0 : Int32) (S : pm_S) (hrec19 : ∀ (y1 : Int32) (y2 : Int32) (U : pm_S) (r : (Int32 × pm_S)), rec19 y1 y2 U = some r → pmE pG (pm_rel pG sp (d + 8)) mi_M_fewest 19 [some (.ref x0), some (.int x1), some (.int y1), some (.int y2), none] [] U (some (.int r.1), r.2)) (r : (Int32 × pm_S)) (h : F_M_fewest_49 N rec19 x0 x1 x2 x3 t0 S = some r) : pmE pG (pm_rel pG sp (d + 8)) mi_M_fewest 49 [some (.ref x0), some (.int x1), some (.int x2), some (.int x3), none] [.int t0] S (some (.int r.1), r.2) := by
  unfold F_M_fewest_49 at h
  refine pE_jump 2 (pc' := 53) (ls' := [some (.ref x0), some (.int x1), some (.int x2), some (.int x3), some (.int t0)]) (st' := [.int t0]) (fun _ => rfl) ?_
  refine pE_br (t0 < 0) rfl rfl (fun c11 => ?_) (fun c11 => ?_)
  · rw [if_pos c11] at h
    refine pE_weak [some (.ref x0), some (.int x1), some (.int x2), some (.int x3), none] ⟨rfl, ⟨rfl, ⟨rfl, ⟨rfl, trivial⟩⟩⟩⟩ ?_
    exact f_M_fewest_74 sp d N rec19 x0 x1 x2 x3 S hrec19 _ h
  · rw [if_neg c11] at h
    refine pE_jump 1 (pc' := 58) (ls' := [some (.ref x0), some (.int x1), some (.int x2), some (.int x3), some (.int t0)]) (st' := [.int t0]) (fun _ => rfl) ?_
    refine pE_br (¬ t0 = 0) rfl rfl (fun c10 => ?_) (fun c10 => ?_)
    · rw [if_neg c10] at h
      refine pE_weak [some (.ref x0), some (.int x1), some (.int x2), some (.int x3), none] ⟨rfl, ⟨rfl, ⟨rfl, ⟨rfl, trivial⟩⟩⟩⟩ ?_
      exact f_M_fewest_85 sp d N rec19 x0 x1 x2 x3 S hrec19 _ h
    · have c10 := Decidable.not_not.mp c10
      rw [if_pos c10] at h
      refine pE_jump 10 (pc' := 71) (ls' := [some (.ref x0), some (.int x1), some (.int x2), some (.int x3), some (.int t0)]) (st' := [.int ((x3 &&& (x3 ^^^ x2)) &&& (-(x3 ^^^ x2)))]) (fun _ => rfl) ?_
      refine pE_br (((x3 &&& (x3 ^^^ x2)) &&& (-(x3 ^^^ x2))) = 0) rfl rfl (fun c9 => ?_) (fun c9 => ?_)
      · rw [if_pos c9] at h
        refine pE_weak [some (.ref x0), some (.int x1), some (.int x2), some (.int x3), none] ⟨rfl, ⟨rfl, ⟨rfl, ⟨rfl, trivial⟩⟩⟩⟩ ?_
        exact f_M_fewest_85 sp d N rec19 x0 x1 x2 x3 S hrec19 _ h
      · rw [if_neg c9] at h
        refine pE_weak [some (.ref x0), some (.int x1), some (.int x2), some (.int x3), none] ⟨rfl, ⟨rfl, ⟨rfl, ⟨rfl, trivial⟩⟩⟩⟩ ?_
        exact f_M_fewest_74 sp d N rec19 x0 x1 x2 x3 S hrec19 _ h
def B_M_fewest_19 (N : Nat)  (rec19 : Int32 → Int32 → pm_S → Option (Int32 × pm_S)) (x0 : Nat) (x1 : Int32) (x2 : Int32) (x3 : Int32) (S : pm_S) : Option (Int32 × pm_S) :=
    (oR S x0 11 20).bind fun oq4 => match oq4 with
    | none => none
    | some q4 =>
    (aI [0, 6] S q4 x1).bind fun v5 =>
    if (1 <<< (v5 &&& 31)) ≤ x3 then
    F_M_fewest_91 N x2 S
    else
    (if x2 = (-1) then
    F_M_fewest_49 N rec19 x0 x1 x2 x3 (-1) S
    else
    ((F_Int_bitCount N S x3).bind fun (v13, S12) =>
    (F_Int_bitCount N S12 x2).bind fun (v15, S14) =>
    F_M_fewest_49 N rec19 x0 x1 x2 x3 (v13 - v15) S14))
def F_M_fewest_19 (N : Nat)  (x0 : Nat) (x1 : Int32) : Nat → Int32 → Int32 → pm_S → Option (Int32 × pm_S)
  | 0 => fun _ _ _ => none
  | n + 1 => fun x2 x3 S => B_M_fewest_19 N  (F_M_fewest_19 N  x0 x1 n) x0 x1 x2 x3 S
set_option maxHeartbeats 4000000 in
set_option maxRecDepth 20000 in
theorem f_M_fewest_19 (sp : pm_I → List Value → pm_S → pm_O → Prop) (d N : Nat)  (x0 : Nat) (x1 : Int32)  : ∀ (n : Nat) (x2 : Int32) (x3 : Int32) (S : pm_S) (r : (Int32 × pm_S)), F_M_fewest_19 N  x0 x1 n x2 x3 S = some r → pmE pG (pm_rel pG sp (d + 8)) mi_M_fewest 19 [some (.ref x0), some (.int x1), some (.int x2), some (.int x3), none] [] S (some (.int r.1), r.2) := by
  intro n
  induction n with
  | zero =>
    intro x2 x3 S r h
    cases h
  | succ n ih =>
    intro x2 x3 S r h
    replace h : B_M_fewest_19 N  (F_M_fewest_19 N  x0 x1 n) x0 x1 x2 x3 S = some r := h
    have hrec19 := ih
    generalize F_M_fewest_19 N  x0 x1 n = rec19 at h hrec19
    unfold B_M_fewest_19 at h
    refine pE_jump 3 (pc' := 22) (ls' := [some (.ref x0), some (.int x1), some (.int x2), some (.int x3), none]) (st' := [.ref x0, .int 1, .int x3]) (fun _ => rfl) ?_
    obtain ⟨oq4, hq4, h⟩ := obind h
    cases oq4 with
    | none => cases h
    | some q4 =>
      try dsimp only at h
      refine pE_gfS rfl rfl hq4 ?_
      refine pE_jump 1 (pc' := 26) (ls' := [some (.ref x0), some (.int x1), some (.int x2), some (.int x3), none]) (st' := [.int x1, .ref q4, .int 1, .int x3]) (fun _ => rfl) ?_
      obtain ⟨v5, hv5, h⟩ := obind h
      refine pE_aI rfl rfl hv5 ?_
      refine pE_jump 1 (pc' := 28) (ls' := [some (.ref x0), some (.int x1), some (.int x2), some (.int x3), none]) (st' := [.int (1 <<< (v5 &&& 31)), .int x3]) (fun _ => rfl) ?_
      refine pE_br ((1 <<< (v5 &&& 31)) ≤ x3) rfl rfl (fun c17 => ?_) (fun c17 => ?_)
      · rw [if_pos c17] at h
        refine pE_weak [none, none, some (.int x2), none, none] ⟨rfl, trivial⟩ ?_
        exact f_M_fewest_91 sp d N x2 S _ h
      · rw [if_neg c17] at h
        refine pE_jump 2 (pc' := 33) (ls' := [some (.ref x0), some (.int x1), some (.int x2), some (.int x3), none]) (st' := [.int (-1), .int x2]) (fun _ => rfl) ?_
        refine pE_br (¬ x2 = (-1)) rfl rfl (fun c16 => ?_) (fun c16 => ?_)
        · rw [if_neg c16] at h
          refine pE_jump 1 (pc' := 41) (ls' := [some (.ref x0), some (.int x1), some (.int x2), some (.int x3), none]) (st' := [.int x3]) (fun _ => rfl) ?_
          obtain ⟨⟨v13, S12⟩, hv13, h⟩ := obind h
          try dsimp only at h
          refine pE_is (Bs := [.int x3]) (st := []) rfl rfl rfl (Nat.le_of_ble_eq_true rfl) (Nat.le_of_ble_eq_true rfl) (f_Int_bitCount sp (d + 7) N S x3 _ hv13) ?_
          refine pE_jump 1 (pc' := 45) (ls' := [some (.ref x0), some (.int x1), some (.int x2), some (.int x3), none]) (st' := [.int x2, .int v13]) (fun _ => rfl) ?_
          obtain ⟨⟨v15, S14⟩, hv15, h⟩ := obind h
          try dsimp only at h
          refine pE_is (Bs := [.int x2]) (st := [.int v13]) rfl rfl rfl (Nat.le_of_ble_eq_true rfl) (Nat.le_of_ble_eq_true rfl) (f_Int_bitCount sp (d + 7) N S12 x2 _ hv15) ?_
          refine pE_jump 1 (pc' := 49) (ls' := [some (.ref x0), some (.int x1), some (.int x2), some (.int x3), none]) (st' := [.int (v13 - v15)]) (fun _ => rfl) ?_
          exact f_M_fewest_49 sp d N rec19 x0 x1 x2 x3 (v13 - v15) S14 hrec19 _ h
        · have c16 := Decidable.not_not.mp c16
          rw [if_pos c16] at h
          refine pE_jump 2 (pc' := 49) (ls' := [some (.ref x0), some (.int x1), some (.int x2), some (.int x3), none]) (st' := [.int (-1)]) (fun _ => rfl) ?_
          exact f_M_fewest_49 sp d N rec19 x0 x1 x2 x3 (-1) S hrec19 _ h
def F_M_fewest (N : Nat) (S : pm_S) (a : Nat) (p0 : Int32) : Option (Int32 × pm_S) :=
    if rcv S a 11 = true then
    ((wF S a 11 0 .int (.int 0)).bind fun S1 =>
    (F_M_isPlan N S1 a p0).bind fun (v3, S2) =>
    if v3 = 0 then
    some ((-1), S2)
    else
    F_M_fewest_19 N a p0 N (-1) 0 S2)
    else none
theorem g_M_fewest {N : Nat} {S : pm_S} {a : Nat} {p0 : Int32} {r : (Int32 × pm_S)} (h : F_M_fewest N S a p0 = some r) : rcv S a 11 = true := by
  unfold F_M_fewest at h
  by_cases c : rcv S a 11 = true
  · exact c
  · rw [if_neg c] at h; cases h
set_option maxHeartbeats 4000000 in
set_option maxRecDepth 20000 in
theorem f_M_fewest (sp : pm_I → List Value → pm_S → pm_O → Prop) (d N : Nat) (S : pm_S) (a : Nat) (p0 : Int32) (r : (Int32 × pm_S)) (h : F_M_fewest N S a p0 = some r) : pm_rel pG sp (d + 9) mi_M_fewest [.ref a, .int p0] S (some (.int r.1), r.2) := by
  have hg := g_M_fewest h
  unfold F_M_fewest at h
  rw [if_pos hg] at h
  refine pE_rel (d := d + 8) ?_
  show pmE pG _ mi_M_fewest 0 [some (.ref a), some (.int p0), none, none, none] [] S _
  refine pE_jump 2 (pc' := 2) (ls' := [some (.ref a), some (.int p0), none, none, none]) (st' := [.int 0, .ref a]) (fun _ => rfl) ?_
  obtain ⟨S1, hS1, h⟩ := obind h
  refine pE_pf rfl rfl rfl hS1 ?_
  refine pE_jump 2 (pc' := 7) (ls' := [some (.ref a), some (.int p0), none, none, none]) (st' := [.int p0, .ref a]) (fun _ => rfl) ?_
  obtain ⟨⟨v3, S2⟩, hv3, h⟩ := obind h
  try dsimp only at h
  refine pE_iv (Bs := [.int p0]) (st := []) 1 rfl (Or.inl ⟨rfl, rfl⟩) rfl rfl (Nat.le_of_ble_eq_true rfl) (Nat.le_of_ble_eq_true rfl) (g_M_isPlan hv3) (f_M_isPlan sp (d + 7) N S1 a p0 _ hv3) ?_
  refine pE_br (¬ v3 = 0) rfl rfl (fun c18 => ?_) (fun c18 => ?_)
  · rw [if_neg c18] at h
    refine pE_jump 4 (pc' := 19) (ls' := [some (.ref a), some (.int p0), some (.int (-1)), some (.int 0), none]) (st' := []) (fun _ => rfl) ?_
    exact f_M_fewest_19 sp d N a p0 N (-1) 0 S2 _ h
  · have c18 := Decidable.not_not.mp c18
    rw [if_pos c18] at h
    refine pE_jump 1 (pc' := 14) (ls' := [some (.ref a), some (.int p0), none, none, none]) (st' := [.int (-1)]) (fun _ => rfl) ?_
    cases h
    exact pE_ret rfl rfl rfl
def F_M_sure_22 (N : Nat)   (S : pm_S) : Option (Int32 × pm_S) :=
    some ((-1), S)
set_option maxHeartbeats 4000000 in
set_option maxRecDepth 20000 in
theorem f_M_sure_22 (sp : pm_I → List Value → pm_S → pm_O → Prop) (d N : Nat)   (S : pm_S)  (r : (Int32 × pm_S)) (h : F_M_sure_22 N   S = some r) : pmE pG (pm_rel pG sp (d + 8)) mi_M_sure 22 [none, none, none, none, none, none, none] [] S (some (.int r.1), r.2) := by
  unfold F_M_sure_22 at h
  refine pE_jump 1 (pc' := 23) (ls' := [none, none, none, none, none, none, none]) (st' := [.int (-1)]) (fun _ => rfl) ?_
  cases h
  exact pE_ret rfl rfl rfl
def F_M_sure_111 (N : Nat)  (t0 : Int32) (S : pm_S) : Option (Int32 × pm_S) :=
    some (t0, S)
set_option maxHeartbeats 4000000 in
set_option maxRecDepth 20000 in
theorem f_M_sure_111 (sp : pm_I → List Value → pm_S → pm_O → Prop) (d N : Nat)  (t0 : Int32) (S : pm_S)  (r : (Int32 × pm_S)) (h : F_M_sure_111 N  t0 S = some r) : pmE pG (pm_rel pG sp (d + 8)) mi_M_sure 111 [none, none, none, none, none, none, none] [.int t0] S (some (.int r.1), r.2) := by
  unfold F_M_sure_111 at h
  cases h
  exact pE_ret rfl rfl rfl
def F_M_sure_92 (N : Nat)  (x2 : Int32) (x3 : Int32) (x4 : Int32) (x5 : Int32) (S : pm_S) : Option (Int32 × pm_S) :=
    if x3 = 0 then
    F_M_sure_111 N (-1) S
    else
    (if x2 = 0 then
    F_M_sure_111 N x4 S
    else
    F_M_sure_111 N x5 S)
set_option maxHeartbeats 4000000 in
set_option maxRecDepth 20000 in
theorem f_M_sure_92 (sp : pm_I → List Value → pm_S → pm_O → Prop) (d N : Nat)  (x2 : Int32) (x3 : Int32) (x4 : Int32) (x5 : Int32) (S : pm_S)  (r : (Int32 × pm_S)) (h : F_M_sure_92 N  x2 x3 x4 x5 S = some r) : pmE pG (pm_rel pG sp (d + 8)) mi_M_sure 92 [none, none, some (.int x2), some (.int x3), some (.int x4), some (.int x5), none] [] S (some (.int r.1), r.2) := by
  unfold F_M_sure_92 at h
  refine pE_jump 1 (pc' := 93) (ls' := [none, none, some (.int x2), some (.int x3), some (.int x4), some (.int x5), none]) (st' := [.int x3]) (fun _ => rfl) ?_
  refine pE_br (¬ x3 = 0) rfl rfl (fun c11 => ?_) (fun c11 => ?_)
  · rw [if_neg c11] at h
    refine pE_jump 1 (pc' := 101) (ls' := [none, none, some (.int x2), some (.int x3), some (.int x4), some (.int x5), none]) (st' := [.int x2]) (fun _ => rfl) ?_
    refine pE_br (¬ x2 = 0) rfl rfl (fun c10 => ?_) (fun c10 => ?_)
    · rw [if_neg c10] at h
      refine pE_jump 1 (pc' := 111) (ls' := [none, none, some (.int x2), some (.int x3), some (.int x4), some (.int x5), none]) (st' := [.int x5]) (fun _ => rfl) ?_
      refine pE_weak [none, none, none, none, none, none, none] trivial ?_
      exact f_M_sure_111 sp d N x5 S _ h
    · have c10 := Decidable.not_not.mp c10
      rw [if_pos c10] at h
      refine pE_jump 2 (pc' := 111) (ls' := [none, none, some (.int x2), some (.int x3), some (.int x4), some (.int x5), none]) (st' := [.int x4]) (fun _ => rfl) ?_
      refine pE_weak [none, none, none, none, none, none, none] trivial ?_
      exact f_M_sure_111 sp d N x4 S _ h
  · have c11 := Decidable.not_not.mp c11
    rw [if_pos c11] at h
    refine pE_jump 2 (pc' := 111) (ls' := [none, none, some (.int x2), some (.int x3), some (.int x4), some (.int x5), none]) (st' := [.int (-1)]) (fun _ => rfl) ?_
    refine pE_weak [none, none, none, none, none, none, none] trivial ?_
    exact f_M_sure_111 sp d N (-1) S _ h
def F_M_sure_86 (N : Nat) (rec44 : Int32 → Int32 → Int32 → Int32 → pm_S → Option (Int32 × pm_S)) (x0 : Nat) (x1 : Int32) (x2 : Int32) (x3 : Int32) (x4 : Int32) (x5 : Int32) (x6 : Int32) (S : pm_S) : Option (Int32 × pm_S) :=
    rec44 x3 x4 x5 (x6 + 1) S
set_option maxHeartbeats 4000000 in
set_option maxRecDepth 20000 in
theorem f_M_sure_86 (sp : pm_I → List Value → pm_S → pm_O → Prop) (d N : Nat) (rec44 : Int32 → Int32 → Int32 → Int32 → pm_S → Option (Int32 × pm_S)) (x0 : Nat) (x1 : Int32) (x2 : Int32) (x3 : Int32) (x4 : Int32) (x5 : Int32) (x6 : Int32) (S : pm_S) (hrec44 : ∀ (y1 : Int32) (y2 : Int32) (y3 : Int32) (y4 : Int32) (U : pm_S) (r : (Int32 × pm_S)), rec44 y1 y2 y3 y4 U = some r → pmE pG (pm_rel pG sp (d + 8)) mi_M_sure 44 [some (.ref x0), some (.int x1), some (.int x2), some (.int y1), some (.int y2), some (.int y3), some (.int y4)] [] U (some (.int r.1), r.2)) (r : (Int32 × pm_S)) (h : F_M_sure_86 N rec44 x0 x1 x2 x3 x4 x5 x6 S = some r) : pmE pG (pm_rel pG sp (d + 8)) mi_M_sure 86 [some (.ref x0), some (.int x1), some (.int x2), some (.int x3), some (.int x4), some (.int x5), some (.int x6)] [] S (some (.int r.1), r.2) := by
  unfold F_M_sure_86 at h
  refine pE_jump 2 (pc' := 44) (ls' := [some (.ref x0), some (.int x1), some (.int x2), some (.int x3), some (.int x4), some (.int x5), some (.int (x6 + 1))]) (st' := []) (fun _ => rfl) ?_
  exact hrec44 x3 x4 x5 (x6 + 1) S _ h
def B_M_sure_44 (N : Nat)  (rec44 : Int32 → Int32 → Int32 → Int32 → pm_S → Option (Int32 × pm_S)) (x0 : Nat) (x1 : Int32) (x2 : Int32) (x3 : Int32) (x4 : Int32) (x5 : Int32) (x6 : Int32) (S : pm_S) : Option (Int32 × pm_S) :=
    (oR S x0 11 20).bind fun oq8 => match oq8 with
    | none => none
    | some q8 =>
    (aI [0, 6] S q8 x1).bind fun v9 =>
    if (1 <<< (v9 &&& 31)) ≤ x6 then
    F_M_sure_92 N x2 x3 x4 x5 S
    else
    ((F_M_fits N S x0 x1 x6).bind fun (v13, S12) =>
    if v13 = 0 then
    F_M_sure_86 N rec44 x0 x1 x2 x3 x4 x5 x6 S12
    else
    F_M_sure_86 N rec44 x0 x1 x2 1 (x4 &&& x6) (x5 ||| x6) x6 S12)
def F_M_sure_44 (N : Nat)  (x0 : Nat) (x1 : Int32) (x2 : Int32) : Nat → Int32 → Int32 → Int32 → Int32 → pm_S → Option (Int32 × pm_S)
  | 0 => fun _ _ _ _ _ => none
  | n + 1 => fun x3 x4 x5 x6 S => B_M_sure_44 N  (F_M_sure_44 N  x0 x1 x2 n) x0 x1 x2 x3 x4 x5 x6 S
set_option maxHeartbeats 4000000 in
set_option maxRecDepth 20000 in
theorem f_M_sure_44 (sp : pm_I → List Value → pm_S → pm_O → Prop) (d N : Nat)  (x0 : Nat) (x1 : Int32) (x2 : Int32)  : ∀ (n : Nat) (x3 : Int32) (x4 : Int32) (x5 : Int32) (x6 : Int32) (S : pm_S) (r : (Int32 × pm_S)), F_M_sure_44 N  x0 x1 x2 n x3 x4 x5 x6 S = some r → pmE pG (pm_rel pG sp (d + 8)) mi_M_sure 44 [some (.ref x0), some (.int x1), some (.int x2), some (.int x3), some (.int x4), some (.int x5), some (.int x6)] [] S (some (.int r.1), r.2) := by
  intro n
  induction n with
  | zero =>
    intro x3 x4 x5 x6 S r h
    cases h
  | succ n ih =>
    intro x3 x4 x5 x6 S r h
    replace h : B_M_sure_44 N  (F_M_sure_44 N  x0 x1 x2 n) x0 x1 x2 x3 x4 x5 x6 S = some r := h
    have hrec44 := ih
    generalize F_M_sure_44 N  x0 x1 x2 n = rec44 at h hrec44
    unfold B_M_sure_44 at h
    refine pE_jump 3 (pc' := 48) (ls' := [some (.ref x0), some (.int x1), some (.int x2), some (.int x3), some (.int x4), some (.int x5), some (.int x6)]) (st' := [.ref x0, .int 1, .int x6]) (fun _ => rfl) ?_
    obtain ⟨oq8, hq8, h⟩ := obind h
    cases oq8 with
    | none => cases h
    | some q8 =>
      try dsimp only at h
      refine pE_gfS rfl rfl hq8 ?_
      refine pE_jump 1 (pc' := 52) (ls' := [some (.ref x0), some (.int x1), some (.int x2), some (.int x3), some (.int x4), some (.int x5), some (.int x6)]) (st' := [.int x1, .ref q8, .int 1, .int x6]) (fun _ => rfl) ?_
      obtain ⟨v9, hv9, h⟩ := obind h
      refine pE_aI rfl rfl hv9 ?_
      refine pE_jump 1 (pc' := 54) (ls' := [some (.ref x0), some (.int x1), some (.int x2), some (.int x3), some (.int x4), some (.int x5), some (.int x6)]) (st' := [.int (1 <<< (v9 &&& 31)), .int x6]) (fun _ => rfl) ?_
      refine pE_br ((1 <<< (v9 &&& 31)) ≤ x6) rfl rfl (fun c15 => ?_) (fun c15 => ?_)
      · rw [if_pos c15] at h
        refine pE_weak [none, none, some (.int x2), some (.int x3), some (.int x4), some (.int x5), none] ⟨rfl, ⟨rfl, ⟨rfl, ⟨rfl, trivial⟩⟩⟩⟩ ?_
        exact f_M_sure_92 sp d N x2 x3 x4 x5 S _ h
      · rw [if_neg c15] at h
        refine pE_jump 3 (pc' := 61) (ls' := [some (.ref x0), some (.int x1), some (.int x2), some (.int x3), some (.int x4), some (.int x5), some (.int x6)]) (st' := [.int x6, .int x1, .ref x0]) (fun _ => rfl) ?_
        obtain ⟨⟨v13, S12⟩, hv13, h⟩ := obind h
        try dsimp only at h
        refine pE_iv (Bs := [.int x1, .int x6]) (st := []) 1 rfl (Or.inl ⟨rfl, rfl⟩) rfl rfl (Nat.le_of_ble_eq_true rfl) (Nat.le_of_ble_eq_true rfl) (g_M_fits hv13) (f_M_fits sp d N S x0 x1 x6 _ hv13) ?_
        refine pE_br (¬ v13 = 0) rfl rfl (fun c14 => ?_) (fun c14 => ?_)
        · rw [if_neg c14] at h
          refine pE_jump 10 (pc' := 86) (ls' := [some (.ref x0), some (.int x1), some (.int x2), some (.int 1), some (.int (x4 &&& x6)), some (.int (x5 ||| x6)), some (.int x6)]) (st' := []) (fun _ => rfl) ?_
          exact f_M_sure_86 sp d N rec44 x0 x1 x2 1 (x4 &&& x6) (x5 ||| x6) x6 S12 hrec44 _ h
        · have c14 := Decidable.not_not.mp c14
          rw [if_pos c14] at h
          refine pE_jump 1 (pc' := 86) (ls' := [some (.ref x0), some (.int x1), some (.int x2), some (.int x3), some (.int x4), some (.int x5), some (.int x6)]) (st' := []) (fun _ => rfl) ?_
          exact f_M_sure_86 sp d N rec44 x0 x1 x2 x3 x4 x5 x6 S12 hrec44 _ h
def F_M_sure (N : Nat) (S : pm_S) (a : Nat) (p0 : Int32) (p1 : Int32) : Option (Int32 × pm_S) :=
    if rcv S a 11 = true then
    ((wF S a 11 0 .int (.int 0)).bind fun S1 =>
    (F_M_isPlan N S1 a p0).bind fun (v3, S2) =>
    if v3 = 0 then
    F_M_sure_22 N S2
    else
    ((F_M_isIn N S2 p1 0 1).bind fun (v5, S4) =>
    if v5 = 0 then
    F_M_sure_22 N S4
    else
    ((oR S4 a 11 20).bind fun oq6 => match oq6 with
    | none => none
    | some q6 =>
    (aI [0, 6] S4 q6 p0).bind fun v7 =>
    F_M_sure_44 N a p0 p1 N 0 ((1 <<< (v7 &&& 31)) - 1) 0 0 S4)))
    else none
theorem g_M_sure {N : Nat} {S : pm_S} {a : Nat} {p0 : Int32} {p1 : Int32} {r : (Int32 × pm_S)} (h : F_M_sure N S a p0 p1 = some r) : rcv S a 11 = true := by
  unfold F_M_sure at h
  by_cases c : rcv S a 11 = true
  · exact c
  · rw [if_neg c] at h; cases h
set_option maxHeartbeats 4000000 in
set_option maxRecDepth 20000 in
theorem f_M_sure (sp : pm_I → List Value → pm_S → pm_O → Prop) (d N : Nat) (S : pm_S) (a : Nat) (p0 : Int32) (p1 : Int32) (r : (Int32 × pm_S)) (h : F_M_sure N S a p0 p1 = some r) : pm_rel pG sp (d + 9) mi_M_sure [.ref a, .int p0, .int p1] S (some (.int r.1), r.2) := by
  have hg := g_M_sure h
  unfold F_M_sure at h
  rw [if_pos hg] at h
  refine pE_rel (d := d + 8) ?_
  show pmE pG _ mi_M_sure 0 [some (.ref a), some (.int p0), some (.int p1), none, none, none, none] [] S _
  refine pE_jump 2 (pc' := 2) (ls' := [some (.ref a), some (.int p0), some (.int p1), none, none, none, none]) (st' := [.int 0, .ref a]) (fun _ => rfl) ?_
  obtain ⟨S1, hS1, h⟩ := obind h
  refine pE_pf rfl rfl rfl hS1 ?_
  refine pE_jump 2 (pc' := 7) (ls' := [some (.ref a), some (.int p0), some (.int p1), none, none, none, none]) (st' := [.int p0, .ref a]) (fun _ => rfl) ?_
  obtain ⟨⟨v3, S2⟩, hv3, h⟩ := obind h
  try dsimp only at h
  refine pE_iv (Bs := [.int p0]) (st := []) 1 rfl (Or.inl ⟨rfl, rfl⟩) rfl rfl (Nat.le_of_ble_eq_true rfl) (Nat.le_of_ble_eq_true rfl) (g_M_isPlan hv3) (f_M_isPlan sp (d + 7) N S1 a p0 _ hv3) ?_
  refine pE_br (v3 = 0) rfl rfl (fun c17 => ?_) (fun c17 => ?_)
  · rw [if_pos c17] at h
    refine pE_weak [none, none, none, none, none, none, none] trivial ?_
    exact f_M_sure_22 sp d N S2 _ h
  · rw [if_neg c17] at h
    refine pE_jump 3 (pc' := 16) (ls' := [some (.ref a), some (.int p0), some (.int p1), none, none, none, none]) (st' := [.int 1, .int 0, .int p1]) (fun _ => rfl) ?_
    obtain ⟨⟨v5, S4⟩, hv5, h⟩ := obind h
    try dsimp only at h
    refine pE_is (Bs := [.int p1, .int 0, .int 1]) (st := []) rfl rfl rfl (Nat.le_of_ble_eq_true rfl) (Nat.le_of_ble_eq_true rfl) (f_M_isIn sp (d + 7) N S2 p1 0 1 _ hv5) ?_
    refine pE_br (¬ v5 = 0) rfl rfl (fun c16 => ?_) (fun c16 => ?_)
    · rw [if_neg c16] at h
      refine pE_jump 4 (pc' := 28) (ls' := [some (.ref a), some (.int p0), some (.int p1), some (.int 0), none, none, none]) (st' := [.ref a, .int 1]) (fun _ => rfl) ?_
      obtain ⟨oq6, hq6, h⟩ := obind h
      cases oq6 with
      | none => cases h
      | some q6 =>
        try dsimp only at h
        refine pE_gfS rfl rfl hq6 ?_
        refine pE_jump 1 (pc' := 32) (ls' := [some (.ref a), some (.int p0), some (.int p1), some (.int 0), none, none, none]) (st' := [.int p0, .ref q6, .int 1]) (fun _ => rfl) ?_
        obtain ⟨v7, hv7, h⟩ := obind h
        refine pE_aI rfl rfl hv7 ?_
        refine pE_jump 8 (pc' := 44) (ls' := [some (.ref a), some (.int p0), some (.int p1), some (.int 0), some (.int ((1 <<< (v7 &&& 31)) - 1)), some (.int 0), some (.int 0)]) (st' := []) (fun _ => rfl) ?_
        exact f_M_sure_44 sp d N a p0 p1 N 0 ((1 <<< (v7 &&& 31)) - 1) 0 0 S4 _ h
    · have c16 := Decidable.not_not.mp c16
      rw [if_pos c16] at h
      refine pE_weak [none, none, none, none, none, none, none] trivial ?_
      exact f_M_sure_22 sp d N S4 _ h
def F_M_layFits_32 (N : Nat)   (S : pm_S) : Option pm_S :=
    some S
set_option maxHeartbeats 4000000 in
set_option maxRecDepth 20000 in
theorem f_M_layFits_32 (sp : pm_I → List Value → pm_S → pm_O → Prop) (d N : Nat)   (S : pm_S)  (r : pm_S) (h : F_M_layFits_32 N   S = some r) : pmE pG (pm_rel pG sp (d + 8)) mi_M_layFits 32 [none, none, none] [] S (none, r) := by
  unfold F_M_layFits_32 at h
  cases h
  exact pE_ret rfl rfl rfl
def B_M_layFits_2 (N : Nat)  (rec2 : Int32 → pm_S → Option pm_S) (x0 : Nat) (x1 : Int32) (x2 : Int32) (S : pm_S) : Option pm_S :=
    (oR S x0 11 20).bind fun oq1 => match oq1 with
    | none => none
    | some q1 =>
    (aI [0, 6] S q1 x1).bind fun v2 =>
    if (1 <<< (v2 &&& 31)) ≤ x2 then
    F_M_layFits_32 N S
    else
    ((oR S x0 11 48).bind fun oq3 => match oq3 with
    | none => none
    | some q3 =>
    (F_M_fits N S x0 x1 x2).bind fun (v7, S6) =>
    (sI [2, 3] S6 q3 x2 v7).bind fun S8 =>
    rec2 (x2 + 1) S8)
def F_M_layFits_2 (N : Nat)  (x0 : Nat) (x1 : Int32) : Nat → Int32 → pm_S → Option pm_S
  | 0 => fun _ _ => none
  | n + 1 => fun x2 S => B_M_layFits_2 N  (F_M_layFits_2 N  x0 x1 n) x0 x1 x2 S
set_option maxHeartbeats 4000000 in
set_option maxRecDepth 20000 in
theorem f_M_layFits_2 (sp : pm_I → List Value → pm_S → pm_O → Prop) (d N : Nat)  (x0 : Nat) (x1 : Int32)  : ∀ (n : Nat) (x2 : Int32) (S : pm_S) (r : pm_S), F_M_layFits_2 N  x0 x1 n x2 S = some r → pmE pG (pm_rel pG sp (d + 8)) mi_M_layFits 2 [some (.ref x0), some (.int x1), some (.int x2)] [] S (none, r) := by
  intro n
  induction n with
  | zero =>
    intro x2 S r h
    cases h
  | succ n ih =>
    intro x2 S r h
    replace h : B_M_layFits_2 N  (F_M_layFits_2 N  x0 x1 n) x0 x1 x2 S = some r := h
    have hrec2 := ih
    generalize F_M_layFits_2 N  x0 x1 n = rec2 at h hrec2
    unfold B_M_layFits_2 at h
    refine pE_jump 3 (pc' := 5) (ls' := [some (.ref x0), some (.int x1), some (.int x2)]) (st' := [.ref x0, .int 1, .int x2]) (fun _ => rfl) ?_
    obtain ⟨oq1, hq1, h⟩ := obind h
    cases oq1 with
    | none => cases h
    | some q1 =>
      try dsimp only at h
      refine pE_gfS rfl rfl hq1 ?_
      refine pE_jump 1 (pc' := 9) (ls' := [some (.ref x0), some (.int x1), some (.int x2)]) (st' := [.int x1, .ref q1, .int 1, .int x2]) (fun _ => rfl) ?_
      obtain ⟨v2, hv2, h⟩ := obind h
      refine pE_aI rfl rfl hv2 ?_
      refine pE_jump 1 (pc' := 11) (ls' := [some (.ref x0), some (.int x1), some (.int x2)]) (st' := [.int (1 <<< (v2 &&& 31)), .int x2]) (fun _ => rfl) ?_
      refine pE_br ((1 <<< (v2 &&& 31)) ≤ x2) rfl rfl (fun c9 => ?_) (fun c9 => ?_)
      · rw [if_pos c9] at h
        refine pE_weak [none, none, none] trivial ?_
        exact f_M_layFits_32 sp d N S _ h
      · rw [if_neg c9] at h
        refine pE_jump 1 (pc' := 15) (ls' := [some (.ref x0), some (.int x1), some (.int x2)]) (st' := [.ref x0]) (fun _ => rfl) ?_
        obtain ⟨oq3, hq3, h⟩ := obind h
        cases oq3 with
        | none => cases h
        | some q3 =>
          try dsimp only at h
          refine pE_gfS rfl rfl hq3 ?_
          refine pE_jump 4 (pc' := 22) (ls' := [some (.ref x0), some (.int x1), some (.int x2)]) (st' := [.int x2, .int x1, .ref x0, .int x2, .ref q3]) (fun _ => rfl) ?_
          obtain ⟨⟨v7, S6⟩, hv7, h⟩ := obind h
          try dsimp only at h
          refine pE_iv (Bs := [.int x1, .int x2]) (st := [.int x2, .ref q3]) 1 rfl (Or.inl ⟨rfl, rfl⟩) rfl rfl (Nat.le_of_ble_eq_true rfl) (Nat.le_of_ble_eq_true rfl) (g_M_fits hv7) (f_M_fits sp d N S x0 x1 x2 _ hv7) ?_
          obtain ⟨S8, hS8, h⟩ := obind h
          refine pE_sI rfl rfl hS8 ?_
          refine pE_jump 2 (pc' := 2) (ls' := [some (.ref x0), some (.int x1), some (.int (x2 + 1))]) (st' := []) (fun _ => rfl) ?_
          exact hrec2 (x2 + 1) S8 _ h
def F_M_layFits (N : Nat) (S : pm_S) (a : Nat) (p0 : Int32) : Option pm_S :=
    if rcv S a 11 = true then
    (F_M_layFits_2 N a p0 N 0 S)
    else none
theorem g_M_layFits {N : Nat} {S : pm_S} {a : Nat} {p0 : Int32} {r : pm_S} (h : F_M_layFits N S a p0 = some r) : rcv S a 11 = true := by
  unfold F_M_layFits at h
  by_cases c : rcv S a 11 = true
  · exact c
  · rw [if_neg c] at h; cases h
set_option maxHeartbeats 4000000 in
set_option maxRecDepth 20000 in
theorem f_M_layFits (sp : pm_I → List Value → pm_S → pm_O → Prop) (d N : Nat) (S : pm_S) (a : Nat) (p0 : Int32) (r : pm_S) (h : F_M_layFits N S a p0 = some r) : pm_rel pG sp (d + 9) mi_M_layFits [.ref a, .int p0] S (none, r) := by
  have hg := g_M_layFits h
  unfold F_M_layFits at h
  rw [if_pos hg] at h
  refine pE_rel (d := d + 8) ?_
  show pmE pG _ mi_M_layFits 0 [some (.ref a), some (.int p0), none] [] S _
  refine pE_jump 2 (pc' := 2) (ls' := [some (.ref a), some (.int p0), some (.int 0)]) (st' := []) (fun _ => rfl) ?_
  exact f_M_layFits_2 sp d N a p0 N 0 S _ h
def F_M_layParts_155 (N : Nat)   (S : pm_S) : Option pm_S :=
    some S
set_option maxHeartbeats 4000000 in
set_option maxRecDepth 20000 in
theorem f_M_layParts_155 (sp : pm_I → List Value → pm_S → pm_O → Prop) (d N : Nat)   (S : pm_S)  (r : pm_S) (h : F_M_layParts_155 N   S = some r) : pmE pG (pm_rel pG sp (d + 7)) mi_M_layParts 155 [none, none, none, none, none, none, none] [] S (none, r) := by
  unfold F_M_layParts_155 at h
  cases h
  exact pE_ret rfl rfl rfl
def F_M_layParts_149 (N : Nat) (rec13 : Int32 → pm_S → Option pm_S) (x0 : Nat) (x1 : Int32) (x2 : Int32) (x3 : Int32) (x4 : Int32) (S : pm_S) : Option pm_S :=
    rec13 (x4 + 1) S
set_option maxHeartbeats 4000000 in
set_option maxRecDepth 20000 in
theorem f_M_layParts_149 (sp : pm_I → List Value → pm_S → pm_O → Prop) (d N : Nat) (rec13 : Int32 → pm_S → Option pm_S) (x0 : Nat) (x1 : Int32) (x2 : Int32) (x3 : Int32) (x4 : Int32) (S : pm_S) (hrec13 : ∀ (y1 : Int32) (U : pm_S) (r : pm_S), rec13 y1 U = some r → pmE pG (pm_rel pG sp (d + 7)) mi_M_layParts 13 [some (.ref x0), some (.int x1), some (.int x2), some (.int x3), some (.int y1), none, none] [] U (none, r)) (r : pm_S) (h : F_M_layParts_149 N rec13 x0 x1 x2 x3 x4 S = some r) : pmE pG (pm_rel pG sp (d + 7)) mi_M_layParts 149 [some (.ref x0), some (.int x1), some (.int x2), some (.int x3), some (.int x4), none, none] [] S (none, r) := by
  unfold F_M_layParts_149 at h
  refine pE_jump 2 (pc' := 13) (ls' := [some (.ref x0), some (.int x1), some (.int x2), some (.int x3), some (.int (x4 + 1)), none, none]) (st' := []) (fun _ => rfl) ?_
  exact hrec13 (x4 + 1) S _ h
def F_M_layParts_120 (N : Nat) (rec13 : Int32 → pm_S → Option pm_S) (x0 : Nat) (x1 : Int32) (x2 : Int32) (x3 : Int32) (x4 : Int32) (x6 : Int32) (S : pm_S) : Option pm_S :=
    (oR S x0 11 50).bind fun oq21 => match oq21 with
    | none => none
    | some q21 =>
    (aI [0, 6] S q21 x6).bind fun v22 =>
    (sI [0] S q21 x6 (v22 + 1)).bind fun S23 =>
    (oI S23 x0 11 52).bind fun v24 =>
    (oR S23 x0 11 50).bind fun oq25 => match oq25 with
    | none => none
    | some q25 =>
    (aI [0, 6] S23 q25 x6).bind fun v26 =>
    (wF S23 x0 11 52 .int (.int (if v24 < v26 then v26 else v24))).bind fun S27 =>
    F_M_layParts_149 N rec13 x0 x1 x2 x3 x4 S27
set_option maxHeartbeats 4000000 in
set_option maxRecDepth 20000 in
theorem f_M_layParts_120 (sp : pm_I → List Value → pm_S → pm_O → Prop) (d N : Nat) (rec13 : Int32 → pm_S → Option pm_S) (x0 : Nat) (x1 : Int32) (x2 : Int32) (x3 : Int32) (x4 : Int32) (x6 : Int32) (S : pm_S) (hrec13 : ∀ (y1 : Int32) (U : pm_S) (r : pm_S), rec13 y1 U = some r → pmE pG (pm_rel pG sp (d + 7)) mi_M_layParts 13 [some (.ref x0), some (.int x1), some (.int x2), some (.int x3), some (.int y1), none, none] [] U (none, r)) (r : pm_S) (h : F_M_layParts_120 N rec13 x0 x1 x2 x3 x4 x6 S = some r) : pmE pG (pm_rel pG sp (d + 7)) mi_M_layParts 120 [some (.ref x0), some (.int x1), some (.int x2), some (.int x3), some (.int x4), none, some (.int x6)] [] S (none, r) := by
  unfold F_M_layParts_120 at h
  refine pE_jump 1 (pc' := 121) (ls' := [some (.ref x0), some (.int x1), some (.int x2), some (.int x3), some (.int x4), none, some (.int x6)]) (st' := [.ref x0]) (fun _ => rfl) ?_
  obtain ⟨oq21, hq21, h⟩ := obind h
  cases oq21 with
  | none => cases h
  | some q21 =>
    try dsimp only at h
    refine pE_gfS rfl rfl hq21 ?_
    refine pE_jump 2 (pc' := 127) (ls' := [some (.ref x0), some (.int x1), some (.int x2), some (.int x3), some (.int x4), none, some (.int x6)]) (st' := [.int x6, .ref q21, .int x6, .ref q21]) (fun _ => rfl) ?_
    obtain ⟨v22, hv22, h⟩ := obind h
    refine pE_aI rfl rfl hv22 ?_
    refine pE_jump 2 (pc' := 130) (ls' := [some (.ref x0), some (.int x1), some (.int x2), some (.int x3), some (.int x4), none, some (.int x6)]) (st' := [.int (v22 + 1), .int x6, .ref q21]) (fun _ => rfl) ?_
    obtain ⟨S23, hS23, h⟩ := obind h
    refine pE_sI rfl rfl hS23 ?_
    refine pE_jump 2 (pc' := 133) (ls' := [some (.ref x0), some (.int x1), some (.int x2), some (.int x3), some (.int x4), none, some (.int x6)]) (st' := [.ref x0, .ref x0]) (fun _ => rfl) ?_
    obtain ⟨v24, hv24, h⟩ := obind h
    refine pE_gfI rfl rfl hv24 ?_
    refine pE_jump 1 (pc' := 137) (ls' := [some (.ref x0), some (.int x1), some (.int x2), some (.int x3), some (.int x4), none, some (.int x6)]) (st' := [.ref x0, .int v24, .ref x0]) (fun _ => rfl) ?_
    obtain ⟨oq25, hq25, h⟩ := obind h
    cases oq25 with
    | none => cases h
    | some q25 =>
      try dsimp only at h
      refine pE_gfS rfl rfl hq25 ?_
      refine pE_jump 1 (pc' := 142) (ls' := [some (.ref x0), some (.int x1), some (.int x2), some (.int x3), some (.int x4), none, some (.int x6)]) (st' := [.int x6, .ref q25, .int v24, .ref x0]) (fun _ => rfl) ?_
      obtain ⟨v26, hv26, h⟩ := obind h
      refine pE_aI rfl rfl hv26 ?_
      refine pE_mx 5 rfl rfl (Nat.le_of_ble_eq_true rfl) rfl ?_
      obtain ⟨S27, hS27, h⟩ := obind h
      refine pE_pf rfl rfl rfl hS27 ?_
      refine pE_weak [some (.ref x0), some (.int x1), some (.int x2), some (.int x3), some (.int x4), none, none] ⟨rfl, ⟨rfl, ⟨rfl, ⟨rfl, ⟨rfl, trivial⟩⟩⟩⟩⟩ ?_
      exact f_M_layParts_149 sp d N rec13 x0 x1 x2 x3 x4 S27 hrec13 _ h
def F_M_layParts_80 (N : Nat) (rec13 : Int32 → pm_S → Option pm_S) (x0 : Nat) (x1 : Int32) (x2 : Int32) (x3 : Int32) (x4 : Int32) (x5 : Int32) (x6 : Int32) (S : pm_S) : Option pm_S :=
    (oI S x0 11 51).bind fun v10 =>
    if x6 = v10 then
    ((oR S x0 11 49).bind fun oq11 => match oq11 with
    | none => none
    | some q11 =>
    (oI S x0 11 51).bind fun v13 =>
    (sI [0] S q11 v13 x5).bind fun S14 =>
    (oR S14 x0 11 50).bind fun oq15 => match oq15 with
    | none => none
    | some q15 =>
    (oI S14 x0 11 51).bind fun v17 =>
    (sI [0] S14 q15 v17 0).bind fun S18 =>
    (oI S18 x0 11 51).bind fun v19 =>
    (wF S18 x0 11 51 .int (.int (v19 + 1))).bind fun S20 =>
    F_M_layParts_120 N rec13 x0 x1 x2 x3 x4 x6 S20)
    else
    F_M_layParts_120 N rec13 x0 x1 x2 x3 x4 x6 S
set_option maxHeartbeats 4000000 in
set_option maxRecDepth 20000 in
theorem f_M_layParts_80 (sp : pm_I → List Value → pm_S → pm_O → Prop) (d N : Nat) (rec13 : Int32 → pm_S → Option pm_S) (x0 : Nat) (x1 : Int32) (x2 : Int32) (x3 : Int32) (x4 : Int32) (x5 : Int32) (x6 : Int32) (S : pm_S) (hrec13 : ∀ (y1 : Int32) (U : pm_S) (r : pm_S), rec13 y1 U = some r → pmE pG (pm_rel pG sp (d + 7)) mi_M_layParts 13 [some (.ref x0), some (.int x1), some (.int x2), some (.int x3), some (.int y1), none, none] [] U (none, r)) (r : pm_S) (h : F_M_layParts_80 N rec13 x0 x1 x2 x3 x4 x5 x6 S = some r) : pmE pG (pm_rel pG sp (d + 7)) mi_M_layParts 80 [some (.ref x0), some (.int x1), some (.int x2), some (.int x3), some (.int x4), some (.int x5), some (.int x6)] [] S (none, r) := by
  unfold F_M_layParts_80 at h
  refine pE_jump 2 (pc' := 83) (ls' := [some (.ref x0), some (.int x1), some (.int x2), some (.int x3), some (.int x4), some (.int x5), some (.int x6)]) (st' := [.ref x0, .int x6]) (fun _ => rfl) ?_
  obtain ⟨v10, hv10, h⟩ := obind h
  refine pE_gfI rfl rfl hv10 ?_
  refine pE_br (¬ x6 = v10) rfl rfl (fun c28 => ?_) (fun c28 => ?_)
  · rw [if_neg c28] at h
    refine pE_weak [some (.ref x0), some (.int x1), some (.int x2), some (.int x3), some (.int x4), none, some (.int x6)] ⟨rfl, ⟨rfl, ⟨rfl, ⟨rfl, ⟨rfl, ⟨rfl, trivial⟩⟩⟩⟩⟩⟩ ?_
    exact f_M_layParts_120 sp d N rec13 x0 x1 x2 x3 x4 x6 S hrec13 _ h
  · have c28 := Decidable.not_not.mp c28
    rw [if_pos c28] at h
    refine pE_jump 1 (pc' := 90) (ls' := [some (.ref x0), some (.int x1), some (.int x2), some (.int x3), some (.int x4), some (.int x5), some (.int x6)]) (st' := [.ref x0]) (fun _ => rfl) ?_
    obtain ⟨oq11, hq11, h⟩ := obind h
    cases oq11 with
    | none => cases h
    | some q11 =>
      try dsimp only at h
      refine pE_gfS rfl rfl hq11 ?_
      refine pE_jump 1 (pc' := 94) (ls' := [some (.ref x0), some (.int x1), some (.int x2), some (.int x3), some (.int x4), some (.int x5), some (.int x6)]) (st' := [.ref x0, .ref q11]) (fun _ => rfl) ?_
      obtain ⟨v13, hv13, h⟩ := obind h
      refine pE_gfI rfl rfl hv13 ?_
      refine pE_jump 1 (pc' := 99) (ls' := [some (.ref x0), some (.int x1), some (.int x2), some (.int x3), some (.int x4), some (.int x5), some (.int x6)]) (st' := [.int x5, .int v13, .ref q11]) (fun _ => rfl) ?_
      obtain ⟨S14, hS14, h⟩ := obind h
      refine pE_sI rfl rfl hS14 ?_
      refine pE_jump 1 (pc' := 101) (ls' := [some (.ref x0), some (.int x1), some (.int x2), some (.int x3), some (.int x4), some (.int x5), some (.int x6)]) (st' := [.ref x0]) (fun _ => rfl) ?_
      obtain ⟨oq15, hq15, h⟩ := obind h
      cases oq15 with
      | none => cases h
      | some q15 =>
        try dsimp only at h
        refine pE_gfS rfl rfl hq15 ?_
        refine pE_jump 1 (pc' := 105) (ls' := [some (.ref x0), some (.int x1), some (.int x2), some (.int x3), some (.int x4), some (.int x5), some (.int x6)]) (st' := [.ref x0, .ref q15]) (fun _ => rfl) ?_
        obtain ⟨v17, hv17, h⟩ := obind h
        refine pE_gfI rfl rfl hv17 ?_
        refine pE_jump 1 (pc' := 109) (ls' := [some (.ref x0), some (.int x1), some (.int x2), some (.int x3), some (.int x4), some (.int x5), some (.int x6)]) (st' := [.int 0, .int v17, .ref q15]) (fun _ => rfl) ?_
        obtain ⟨S18, hS18, h⟩ := obind h
        refine pE_sI rfl rfl hS18 ?_
        refine pE_jump 2 (pc' := 112) (ls' := [some (.ref x0), some (.int x1), some (.int x2), some (.int x3), some (.int x4), some (.int x5), some (.int x6)]) (st' := [.ref x0, .ref x0]) (fun _ => rfl) ?_
        obtain ⟨v19, hv19, h⟩ := obind h
        refine pE_gfI rfl rfl hv19 ?_
        refine pE_jump 2 (pc' := 117) (ls' := [some (.ref x0), some (.int x1), some (.int x2), some (.int x3), some (.int x4), some (.int x5), some (.int x6)]) (st' := [.int (v19 + 1), .ref x0]) (fun _ => rfl) ?_
        obtain ⟨S20, hS20, h⟩ := obind h
        refine pE_pf rfl rfl rfl hS20 ?_
        refine pE_weak [some (.ref x0), some (.int x1), some (.int x2), some (.int x3), some (.int x4), none, some (.int x6)] ⟨rfl, ⟨rfl, ⟨rfl, ⟨rfl, ⟨rfl, ⟨rfl, trivial⟩⟩⟩⟩⟩⟩ ?_
        exact f_M_layParts_120 sp d N rec13 x0 x1 x2 x3 x4 x6 S20 hrec13 _ h
def B_M_layParts_53 (N : Nat) (rec13 : Int32 → pm_S → Option pm_S) (rec53 : Int32 → pm_S → Option pm_S) (x0 : Nat) (x1 : Int32) (x2 : Int32) (x3 : Int32) (x4 : Int32) (x5 : Int32) (x6 : Int32) (S : pm_S) : Option pm_S :=
    (oI S x0 11 51).bind fun v9 =>
    if v9 ≤ x6 then
    F_M_layParts_80 N rec13 x0 x1 x2 x3 x4 x5 x6 S
    else
    ((oR S x0 11 49).bind fun oq29 => match oq29 with
    | none => none
    | some q29 =>
    (aI [0, 6] S q29 x6).bind fun v30 =>
    if v30 = x5 then
    F_M_layParts_80 N rec13 x0 x1 x2 x3 x4 x5 x6 S
    else
    rec53 (x6 + 1) S)
def F_M_layParts_53 (N : Nat) (rec13 : Int32 → pm_S → Option pm_S) (x0 : Nat) (x1 : Int32) (x2 : Int32) (x3 : Int32) (x4 : Int32) (x5 : Int32) : Nat → Int32 → pm_S → Option pm_S
  | 0 => fun _ _ => none
  | n + 1 => fun x6 S => B_M_layParts_53 N rec13 (F_M_layParts_53 N rec13 x0 x1 x2 x3 x4 x5 n) x0 x1 x2 x3 x4 x5 x6 S
set_option maxHeartbeats 4000000 in
set_option maxRecDepth 20000 in
theorem f_M_layParts_53 (sp : pm_I → List Value → pm_S → pm_O → Prop) (d N : Nat) (rec13 : Int32 → pm_S → Option pm_S) (x0 : Nat) (x1 : Int32) (x2 : Int32) (x3 : Int32) (x4 : Int32) (x5 : Int32) (hrec13 : ∀ (y1 : Int32) (U : pm_S) (r : pm_S), rec13 y1 U = some r → pmE pG (pm_rel pG sp (d + 7)) mi_M_layParts 13 [some (.ref x0), some (.int x1), some (.int x2), some (.int x3), some (.int y1), none, none] [] U (none, r)) : ∀ (n : Nat) (x6 : Int32) (S : pm_S) (r : pm_S), F_M_layParts_53 N rec13 x0 x1 x2 x3 x4 x5 n x6 S = some r → pmE pG (pm_rel pG sp (d + 7)) mi_M_layParts 53 [some (.ref x0), some (.int x1), some (.int x2), some (.int x3), some (.int x4), some (.int x5), some (.int x6)] [] S (none, r) := by
  intro n
  induction n with
  | zero =>
    intro x6 S r h
    cases h
  | succ n ih =>
    intro x6 S r h
    replace h : B_M_layParts_53 N rec13 (F_M_layParts_53 N rec13 x0 x1 x2 x3 x4 x5 n) x0 x1 x2 x3 x4 x5 x6 S = some r := h
    have hrec53 := ih
    generalize F_M_layParts_53 N rec13 x0 x1 x2 x3 x4 x5 n = rec53 at h hrec53
    unfold B_M_layParts_53 at h
    refine pE_jump 2 (pc' := 56) (ls' := [some (.ref x0), some (.int x1), some (.int x2), some (.int x3), some (.int x4), some (.int x5), some (.int x6)]) (st' := [.ref x0, .int x6]) (fun _ => rfl) ?_
    obtain ⟨v9, hv9, h⟩ := obind h
    refine pE_gfI rfl rfl hv9 ?_
    refine pE_br (v9 ≤ x6) rfl rfl (fun c32 => ?_) (fun c32 => ?_)
    · rw [if_pos c32] at h
      exact f_M_layParts_80 sp d N rec13 x0 x1 x2 x3 x4 x5 x6 S hrec13 _ h
    · rw [if_neg c32] at h
      refine pE_jump 1 (pc' := 63) (ls' := [some (.ref x0), some (.int x1), some (.int x2), some (.int x3), some (.int x4), some (.int x5), some (.int x6)]) (st' := [.ref x0]) (fun _ => rfl) ?_
      obtain ⟨oq29, hq29, h⟩ := obind h
      cases oq29 with
      | none => cases h
      | some q29 =>
        try dsimp only at h
        refine pE_gfS rfl rfl hq29 ?_
        refine pE_jump 1 (pc' := 68) (ls' := [some (.ref x0), some (.int x1), some (.int x2), some (.int x3), some (.int x4), some (.int x5), some (.int x6)]) (st' := [.int x6, .ref q29]) (fun _ => rfl) ?_
        obtain ⟨v30, hv30, h⟩ := obind h
        refine pE_aI rfl rfl hv30 ?_
        refine pE_jump 1 (pc' := 71) (ls' := [some (.ref x0), some (.int x1), some (.int x2), some (.int x3), some (.int x4), some (.int x5), some (.int x6)]) (st' := [.int x5, .int v30]) (fun _ => rfl) ?_
        refine pE_br (v30 = x5) rfl rfl (fun c31 => ?_) (fun c31 => ?_)
        · rw [if_pos c31] at h
          exact f_M_layParts_80 sp d N rec13 x0 x1 x2 x3 x4 x5 x6 S hrec13 _ h
        · rw [if_neg c31] at h
          refine pE_jump 2 (pc' := 53) (ls' := [some (.ref x0), some (.int x1), some (.int x2), some (.int x3), some (.int x4), some (.int x5), some (.int (x6 + 1))]) (st' := []) (fun _ => rfl) ?_
          exact hrec53 (x6 + 1) S _ h
def B_M_layParts_13 (N : Nat)  (rec13 : Int32 → pm_S → Option pm_S) (x0 : Nat) (x1 : Int32) (x2 : Int32) (x3 : Int32) (x4 : Int32) (S : pm_S) : Option pm_S :=
    (oR S x0 11 20).bind fun oq3 => match oq3 with
    | none => none
    | some q3 =>
    (aI [0, 6] S q3 x1).bind fun v4 =>
    if (1 <<< (v4 &&& 31)) ≤ x4 then
    F_M_layParts_155 N S
    else
    ((oR S x0 11 48).bind fun oq5 => match oq5 with
    | none => none
    | some q5 =>
    (aI [2, 3] S q5 x4).bind fun v6 =>
    if v6 = 0 then
    F_M_layParts_149 N rec13 x0 x1 x2 x3 x4 S
    else
    ((F_M_wouldIn N S x0 x1 x2 x4 x3).bind fun (v8, S7) =>
    F_M_layParts_53 N rec13 x0 x1 x2 x3 x4 v8 N 0 S7))
def F_M_layParts_13 (N : Nat)  (x0 : Nat) (x1 : Int32) (x2 : Int32) (x3 : Int32) : Nat → Int32 → pm_S → Option pm_S
  | 0 => fun _ _ => none
  | n + 1 => fun x4 S => B_M_layParts_13 N  (F_M_layParts_13 N  x0 x1 x2 x3 n) x0 x1 x2 x3 x4 S
set_option maxHeartbeats 4000000 in
set_option maxRecDepth 20000 in
theorem f_M_layParts_13 (sp : pm_I → List Value → pm_S → pm_O → Prop) (d N : Nat)  (x0 : Nat) (x1 : Int32) (x2 : Int32) (x3 : Int32)  : ∀ (n : Nat) (x4 : Int32) (S : pm_S) (r : pm_S), F_M_layParts_13 N  x0 x1 x2 x3 n x4 S = some r → pmE pG (pm_rel pG sp (d + 7)) mi_M_layParts 13 [some (.ref x0), some (.int x1), some (.int x2), some (.int x3), some (.int x4), none, none] [] S (none, r) := by
  intro n
  induction n with
  | zero =>
    intro x4 S r h
    cases h
  | succ n ih =>
    intro x4 S r h
    replace h : B_M_layParts_13 N  (F_M_layParts_13 N  x0 x1 x2 x3 n) x0 x1 x2 x3 x4 S = some r := h
    have hrec13 := ih
    generalize F_M_layParts_13 N  x0 x1 x2 x3 n = rec13 at h hrec13
    unfold B_M_layParts_13 at h
    refine pE_jump 3 (pc' := 17) (ls' := [some (.ref x0), some (.int x1), some (.int x2), some (.int x3), some (.int x4), none, none]) (st' := [.ref x0, .int 1, .int x4]) (fun _ => rfl) ?_
    obtain ⟨oq3, hq3, h⟩ := obind h
    cases oq3 with
    | none => cases h
    | some q3 =>
      try dsimp only at h
      refine pE_gfS rfl rfl hq3 ?_
      refine pE_jump 1 (pc' := 21) (ls' := [some (.ref x0), some (.int x1), some (.int x2), some (.int x3), some (.int x4), none, none]) (st' := [.int x1, .ref q3, .int 1, .int x4]) (fun _ => rfl) ?_
      obtain ⟨v4, hv4, h⟩ := obind h
      refine pE_aI rfl rfl hv4 ?_
      refine pE_jump 1 (pc' := 23) (ls' := [some (.ref x0), some (.int x1), some (.int x2), some (.int x3), some (.int x4), none, none]) (st' := [.int (1 <<< (v4 &&& 31)), .int x4]) (fun _ => rfl) ?_
      refine pE_br ((1 <<< (v4 &&& 31)) ≤ x4) rfl rfl (fun c34 => ?_) (fun c34 => ?_)
      · rw [if_pos c34] at h
        refine pE_weak [none, none, none, none, none, none, none] trivial ?_
        exact f_M_layParts_155 sp d N S _ h
      · rw [if_neg c34] at h
        refine pE_jump 1 (pc' := 27) (ls' := [some (.ref x0), some (.int x1), some (.int x2), some (.int x3), some (.int x4), none, none]) (st' := [.ref x0]) (fun _ => rfl) ?_
        obtain ⟨oq5, hq5, h⟩ := obind h
        cases oq5 with
        | none => cases h
        | some q5 =>
          try dsimp only at h
          refine pE_gfS rfl rfl hq5 ?_
          refine pE_jump 1 (pc' := 32) (ls' := [some (.ref x0), some (.int x1), some (.int x2), some (.int x3), some (.int x4), none, none]) (st' := [.int x4, .ref q5]) (fun _ => rfl) ?_
          obtain ⟨v6, hv6, h⟩ := obind h
          refine pE_aI rfl rfl hv6 ?_
          refine pE_br (¬ v6 = 0) rfl rfl (fun c33 => ?_) (fun c33 => ?_)
          · rw [if_neg c33] at h
            refine pE_jump 5 (pc' := 45) (ls' := [some (.ref x0), some (.int x1), some (.int x2), some (.int x3), some (.int x4), none, none]) (st' := [.int x3, .int x4, .int x2, .int x1, .ref x0]) (fun _ => rfl) ?_
            obtain ⟨⟨v8, S7⟩, hv8, h⟩ := obind h
            try dsimp only at h
            refine pE_iv (Bs := [.int x1, .int x2, .int x4, .int x3]) (st := []) 1 rfl (Or.inl ⟨rfl, rfl⟩) rfl rfl (Nat.le_of_ble_eq_true rfl) (Nat.le_of_ble_eq_true rfl) (g_M_wouldIn hv8) (f_M_wouldIn sp d N S x0 x1 x2 x4 x3 _ hv8) ?_
            refine pE_jump 3 (pc' := 53) (ls' := [some (.ref x0), some (.int x1), some (.int x2), some (.int x3), some (.int x4), some (.int v8), some (.int 0)]) (st' := []) (fun _ => rfl) ?_
            exact f_M_layParts_53 sp d N rec13 x0 x1 x2 x3 x4 v8 hrec13 N 0 S7 _ h
          · have c33 := Decidable.not_not.mp c33
            rw [if_pos c33] at h
            refine pE_jump 1 (pc' := 149) (ls' := [some (.ref x0), some (.int x1), some (.int x2), some (.int x3), some (.int x4), none, none]) (st' := []) (fun _ => rfl) ?_
            exact f_M_layParts_149 sp d N rec13 x0 x1 x2 x3 x4 S hrec13 _ h
def F_M_layParts (N : Nat) (S : pm_S) (a : Nat) (p0 : Int32) (p1 : Int32) (p2 : Int32) : Option pm_S :=
    if rcv S a 11 = true then
    ((wF S a 11 51 .int (.int 0)).bind fun S1 =>
    (wF S1 a 11 52 .int (.int 0)).bind fun S2 =>
    F_M_layParts_13 N a p0 p1 p2 N 0 S2)
    else none
theorem g_M_layParts {N : Nat} {S : pm_S} {a : Nat} {p0 : Int32} {p1 : Int32} {p2 : Int32} {r : pm_S} (h : F_M_layParts N S a p0 p1 p2 = some r) : rcv S a 11 = true := by
  unfold F_M_layParts at h
  by_cases c : rcv S a 11 = true
  · exact c
  · rw [if_neg c] at h; cases h
set_option maxHeartbeats 4000000 in
set_option maxRecDepth 20000 in
theorem f_M_layParts (sp : pm_I → List Value → pm_S → pm_O → Prop) (d N : Nat) (S : pm_S) (a : Nat) (p0 : Int32) (p1 : Int32) (p2 : Int32) (r : pm_S) (h : F_M_layParts N S a p0 p1 p2 = some r) : pm_rel pG sp (d + 8) mi_M_layParts [.ref a, .int p0, .int p1, .int p2] S (none, r) := by
  have hg := g_M_layParts h
  unfold F_M_layParts at h
  rw [if_pos hg] at h
  refine pE_rel (d := d + 7) ?_
  show pmE pG _ mi_M_layParts 0 [some (.ref a), some (.int p0), some (.int p1), some (.int p2), none, none, none] [] S _
  refine pE_jump 2 (pc' := 2) (ls' := [some (.ref a), some (.int p0), some (.int p1), some (.int p2), none, none, none]) (st' := [.int 0, .ref a]) (fun _ => rfl) ?_
  obtain ⟨S1, hS1, h⟩ := obind h
  refine pE_pf rfl rfl rfl hS1 ?_
  refine pE_jump 2 (pc' := 7) (ls' := [some (.ref a), some (.int p0), some (.int p1), some (.int p2), none, none, none]) (st' := [.int 0, .ref a]) (fun _ => rfl) ?_
  obtain ⟨S2, hS2, h⟩ := obind h
  refine pE_pf rfl rfl rfl hS2 ?_
  refine pE_jump 2 (pc' := 13) (ls' := [some (.ref a), some (.int p0), some (.int p1), some (.int p2), some (.int 0), none, none]) (st' := []) (fun _ => rfl) ?_
  exact f_M_layParts_13 sp d N a p0 p1 p2 N 0 S2 _ h
def F_M_parts_24 (N : Nat)   (S : pm_S) : Option (Int32 × pm_S) :=
    some ((-1), S)
set_option maxHeartbeats 4000000 in
set_option maxRecDepth 20000 in
theorem f_M_parts_24 (sp : pm_I → List Value → pm_S → pm_O → Prop) (d N : Nat)   (S : pm_S)  (r : (Int32 × pm_S)) (h : F_M_parts_24 N   S = some r) : pmE pG (pm_rel pG sp (d + 9)) mi_M_parts 24 [none, none, none, none, none] [] S (some (.int r.1), r.2) := by
  unfold F_M_parts_24 at h
  refine pE_jump 1 (pc' := 25) (ls' := [none, none, none, none, none]) (st' := [.int (-1)]) (fun _ => rfl) ?_
  cases h
  exact pE_ret rfl rfl rfl
def F_M_parts_54 (N : Nat)  (t0 : Int32) (S : pm_S) : Option (Int32 × pm_S) :=
    some (t0, S)
set_option maxHeartbeats 4000000 in
set_option maxRecDepth 20000 in
theorem f_M_parts_54 (sp : pm_I → List Value → pm_S → pm_O → Prop) (d N : Nat)  (t0 : Int32) (S : pm_S)  (r : (Int32 × pm_S)) (h : F_M_parts_54 N  t0 S = some r) : pmE pG (pm_rel pG sp (d + 9)) mi_M_parts 54 [none, none, none, none, none] [.int t0] S (some (.int r.1), r.2) := by
  unfold F_M_parts_54 at h
  cases h
  exact pE_ret rfl rfl rfl
def F_M_parts (N : Nat) (S : pm_S) (a : Nat) (p0 : Int32) (p1 : Int32) (p2 : Int32) (p3 : Int32) : Option (Int32 × pm_S) :=
    if rcv S a 11 = true then
    ((wF S a 11 0 .int (.int 0)).bind fun S1 =>
    (F_M_isTest N S1 a p0 p1).bind fun (v3, S2) =>
    if v3 = 0 then
    F_M_parts_24 N S2
    else
    ((F_M_isIn N S2 p3 0 1).bind fun (v5, S4) =>
    if v5 = 0 then
    F_M_parts_24 N S4
    else
    ((F_M_layFits N S4 a p0).bind fun S6 =>
    (F_M_layParts N S6 a p0 p1 p2).bind fun S7 =>
    if p3 = 0 then
    ((oI S7 a 11 52).bind fun v8 =>
    F_M_parts_54 N v8 S7)
    else
    ((oI S7 a 11 51).bind fun v9 =>
    F_M_parts_54 N v9 S7))))
    else none
theorem g_M_parts {N : Nat} {S : pm_S} {a : Nat} {p0 : Int32} {p1 : Int32} {p2 : Int32} {p3 : Int32} {r : (Int32 × pm_S)} (h : F_M_parts N S a p0 p1 p2 p3 = some r) : rcv S a 11 = true := by
  unfold F_M_parts at h
  by_cases c : rcv S a 11 = true
  · exact c
  · rw [if_neg c] at h; cases h
set_option maxHeartbeats 4000000 in
set_option maxRecDepth 20000 in
theorem f_M_parts (sp : pm_I → List Value → pm_S → pm_O → Prop) (d N : Nat) (S : pm_S) (a : Nat) (p0 : Int32) (p1 : Int32) (p2 : Int32) (p3 : Int32) (r : (Int32 × pm_S)) (h : F_M_parts N S a p0 p1 p2 p3 = some r) : pm_rel pG sp (d + 10) mi_M_parts [.ref a, .int p0, .int p1, .int p2, .int p3] S (some (.int r.1), r.2) := by
  have hg := g_M_parts h
  unfold F_M_parts at h
  rw [if_pos hg] at h
  refine pE_rel (d := d + 9) ?_
  show pmE pG _ mi_M_parts 0 [some (.ref a), some (.int p0), some (.int p1), some (.int p2), some (.int p3)] [] S _
  refine pE_jump 2 (pc' := 2) (ls' := [some (.ref a), some (.int p0), some (.int p1), some (.int p2), some (.int p3)]) (st' := [.int 0, .ref a]) (fun _ => rfl) ?_
  obtain ⟨S1, hS1, h⟩ := obind h
  refine pE_pf rfl rfl rfl hS1 ?_
  refine pE_jump 3 (pc' := 8) (ls' := [some (.ref a), some (.int p0), some (.int p1), some (.int p2), some (.int p3)]) (st' := [.int p1, .int p0, .ref a]) (fun _ => rfl) ?_
  obtain ⟨⟨v3, S2⟩, hv3, h⟩ := obind h
  try dsimp only at h
  refine pE_iv (Bs := [.int p0, .int p1]) (st := []) 1 rfl (Or.inl ⟨rfl, rfl⟩) rfl rfl (Nat.le_of_ble_eq_true rfl) (Nat.le_of_ble_eq_true rfl) (g_M_isTest hv3) (f_M_isTest sp (d + 7) N S1 a p0 p1 _ hv3) ?_
  refine pE_br (v3 = 0) rfl rfl (fun c12 => ?_) (fun c12 => ?_)
  · rw [if_pos c12] at h
    refine pE_weak [none, none, none, none, none] trivial ?_
    exact f_M_parts_24 sp d N S2 _ h
  · rw [if_neg c12] at h
    refine pE_jump 3 (pc' := 18) (ls' := [some (.ref a), some (.int p0), some (.int p1), some (.int p2), some (.int p3)]) (st' := [.int 1, .int 0, .int p3]) (fun _ => rfl) ?_
    obtain ⟨⟨v5, S4⟩, hv5, h⟩ := obind h
    try dsimp only at h
    refine pE_is (Bs := [.int p3, .int 0, .int 1]) (st := []) rfl rfl rfl (Nat.le_of_ble_eq_true rfl) (Nat.le_of_ble_eq_true rfl) (f_M_isIn sp (d + 8) N S2 p3 0 1 _ hv5) ?_
    refine pE_br (¬ v5 = 0) rfl rfl (fun c11 => ?_) (fun c11 => ?_)
    · rw [if_neg c11] at h
      refine pE_jump 2 (pc' := 28) (ls' := [some (.ref a), some (.int p0), some (.int p1), some (.int p2), some (.int p3)]) (st' := [.int p0, .ref a]) (fun _ => rfl) ?_
      obtain ⟨S6, hS6, h⟩ := obind h
      refine pE_iv (Bs := [.int p0]) (st := []) 1 rfl (Or.inl ⟨rfl, rfl⟩) rfl rfl (Nat.le_of_ble_eq_true rfl) (Nat.le_of_ble_eq_true rfl) (g_M_layFits hS6) (f_M_layFits sp d N S4 a p0 _ hS6) ?_
      refine pE_jump 4 (pc' := 35) (ls' := [some (.ref a), some (.int p0), some (.int p1), some (.int p2), some (.int p3)]) (st' := [.int p2, .int p1, .int p0, .ref a]) (fun _ => rfl) ?_
      obtain ⟨S7, hS7, h⟩ := obind h
      refine pE_iv (Bs := [.int p0, .int p1, .int p2]) (st := []) 1 rfl (Or.inl ⟨rfl, rfl⟩) rfl rfl (Nat.le_of_ble_eq_true rfl) (Nat.le_of_ble_eq_true rfl) (g_M_layParts hS7) (f_M_layParts sp (d + 1) N S6 a p0 p1 p2 _ hS7) ?_
      refine pE_jump 1 (pc' := 40) (ls' := [some (.ref a), some (.int p0), some (.int p1), some (.int p2), some (.int p3)]) (st' := [.int p3]) (fun _ => rfl) ?_
      refine pE_br (¬ p3 = 0) rfl rfl (fun c10 => ?_) (fun c10 => ?_)
      · rw [if_neg c10] at h
        refine pE_jump 1 (pc' := 51) (ls' := [some (.ref a), some (.int p0), some (.int p1), some (.int p2), some (.int p3)]) (st' := [.ref a]) (fun _ => rfl) ?_
        obtain ⟨v9, hv9, h⟩ := obind h
        refine pE_gfI rfl rfl hv9 ?_
        refine pE_weak [none, none, none, none, none] trivial ?_
        exact f_M_parts_54 sp d N v9 S7 _ h
      · have c10 := Decidable.not_not.mp c10
        rw [if_pos c10] at h
        refine pE_jump 1 (pc' := 44) (ls' := [some (.ref a), some (.int p0), some (.int p1), some (.int p2), some (.int p3)]) (st' := [.ref a]) (fun _ => rfl) ?_
        obtain ⟨v8, hv8, h⟩ := obind h
        refine pE_gfI rfl rfl hv8 ?_
        refine pE_jump 1 (pc' := 54) (ls' := [some (.ref a), some (.int p0), some (.int p1), some (.int p2), some (.int p3)]) (st' := [.int v8]) (fun _ => rfl) ?_
        refine pE_weak [none, none, none, none, none] trivial ?_
        exact f_M_parts_54 sp d N v8 S7 _ h
    · have c11 := Decidable.not_not.mp c11
      rw [if_pos c11] at h
      refine pE_weak [none, none, none, none, none] trivial ?_
      exact f_M_parts_24 sp d N S4 _ h
def F_M_up_27 (N : Nat)  (t0 : Int32) (S : pm_S) : Option (Int32 × pm_S) :=
    some (t0, S)
set_option maxHeartbeats 4000000 in
set_option maxRecDepth 20000 in
theorem f_M_up_27 (sp : pm_I → List Value → pm_S → pm_O → Prop) (d N : Nat)  (t0 : Int32) (S : pm_S)  (r : (Int32 × pm_S)) (h : F_M_up_27 N  t0 S = some r) : pmE pG (pm_rel pG sp (d + 1)) mi_M_up 27 [none, none, none, none] [.int t0] S (some (.int r.1), r.2) := by
  unfold F_M_up_27 at h
  cases h
  exact pE_ret rfl rfl rfl
def F_M_up (N : Nat) (S : pm_S) (a : Nat) (p0 : Int32) (p1 : Int32) : Option (Int32 × pm_S) :=
    if rcv S a 11 = true then
    ((F_M_comesTo N S a p0 p1).bind fun (v2, S1) =>
    if v2 = (-1) then
    F_M_up_27 N (-1) S1
    else
    ((oR S1 a 11 8).bind fun oq3 => match oq3 with
    | none => none
    | some q3 =>
    (aI [0, 6] S1 q3 ((7 * p0) + v2)).bind fun v4 =>
    F_M_up_27 N v4 S1))
    else none
theorem g_M_up {N : Nat} {S : pm_S} {a : Nat} {p0 : Int32} {p1 : Int32} {r : (Int32 × pm_S)} (h : F_M_up N S a p0 p1 = some r) : rcv S a 11 = true := by
  unfold F_M_up at h
  by_cases c : rcv S a 11 = true
  · exact c
  · rw [if_neg c] at h; cases h
set_option maxHeartbeats 4000000 in
set_option maxRecDepth 20000 in
theorem f_M_up (sp : pm_I → List Value → pm_S → pm_O → Prop) (d N : Nat) (S : pm_S) (a : Nat) (p0 : Int32) (p1 : Int32) (r : (Int32 × pm_S)) (h : F_M_up N S a p0 p1 = some r) : pm_rel pG sp (d + 2) mi_M_up [.ref a, .int p0, .int p1] S (some (.int r.1), r.2) := by
  have hg := g_M_up h
  unfold F_M_up at h
  rw [if_pos hg] at h
  refine pE_rel (d := d + 1) ?_
  show pmE pG _ mi_M_up 0 [some (.ref a), some (.int p0), some (.int p1), none] [] S _
  refine pE_jump 3 (pc' := 3) (ls' := [some (.ref a), some (.int p0), some (.int p1), none]) (st' := [.int p1, .int p0, .ref a]) (fun _ => rfl) ?_
  obtain ⟨⟨v2, S1⟩, hv2, h⟩ := obind h
  try dsimp only at h
  refine pE_iv (Bs := [.int p0, .int p1]) (st := []) 1 rfl (Or.inl ⟨rfl, rfl⟩) rfl rfl (Nat.le_of_ble_eq_true rfl) (Nat.le_of_ble_eq_true rfl) (g_M_comesTo hv2) (f_M_comesTo sp d N S a p0 p1 _ hv2) ?_
  refine pE_jump 3 (pc' := 9) (ls' := [some (.ref a), some (.int p0), some (.int p1), some (.int v2)]) (st' := [.int (-1), .int v2]) (fun _ => rfl) ?_
  refine pE_br (¬ v2 = (-1)) rfl rfl (fun c5 => ?_) (fun c5 => ?_)
  · rw [if_neg c5] at h
    refine pE_jump 1 (pc' := 17) (ls' := [some (.ref a), some (.int p0), some (.int p1), some (.int v2)]) (st' := [.ref a]) (fun _ => rfl) ?_
    obtain ⟨oq3, hq3, h⟩ := obind h
    cases oq3 with
    | none => cases h
    | some q3 =>
      try dsimp only at h
      refine pE_gfS rfl rfl hq3 ?_
      refine pE_jump 5 (pc' := 26) (ls' := [some (.ref a), some (.int p0), some (.int p1), some (.int v2)]) (st' := [.int ((7 * p0) + v2), .ref q3]) (fun _ => rfl) ?_
      obtain ⟨v4, hv4, h⟩ := obind h
      refine pE_aI rfl rfl hv4 ?_
      refine pE_weak [none, none, none, none] trivial ?_
      exact f_M_up_27 sp d N v4 S1 _ h
  · have c5 := Decidable.not_not.mp c5
    rw [if_pos c5] at h
    refine pE_jump 2 (pc' := 27) (ls' := [some (.ref a), some (.int p0), some (.int p1), some (.int v2)]) (st' := [.int (-1)]) (fun _ => rfl) ?_
    refine pE_weak [none, none, none, none] trivial ?_
    exact f_M_up_27 sp d N (-1) S1 _ h
