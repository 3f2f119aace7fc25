def F_Bench_explains_123 (N : Nat)   (S : pm_S) : Option (Int32 × pm_S) :=
    some (1, S)
set_option maxHeartbeats 4000000 in
set_option maxRecDepth 20000 in
theorem f_Bench_explains_123 (sp : pm_I → List Value → pm_S → pm_O → Prop) (d N : Nat)   (S : pm_S)  (r : (Int32 × pm_S)) (h : F_Bench_explains_123 N   S = some r) : pmE pG (pm_rel pG sp (d + 5)) mi_Bench_explains 123 [none, none, none, none, none, none, none, none] [] S (some (.int r.1), r.2) := by
  unfold F_Bench_explains_123 at h
  refine pE_jump 1 (pc' := 124) (ls' := [none, none, none, none, none, none, none, none]) (st' := [.int 1]) (fun _ => rfl) ?_
  cases h
  exact pE_ret rfl rfl rfl
def F_Bench_explains_117 (N : Nat) (rec21 : Int32 → pm_S → Option (Int32 × pm_S)) (x0 : Nat) (x1 : Nat) (x4 : Int32) (x5 : Int32) (S : pm_S) : Option (Int32 × pm_S) :=
    rec21 (x5 + 1) S
set_option maxHeartbeats 4000000 in
set_option maxRecDepth 20000 in
theorem f_Bench_explains_117 (sp : pm_I → List Value → pm_S → pm_O → Prop) (d N : Nat) (rec21 : Int32 → pm_S → Option (Int32 × pm_S)) (x0 : Nat) (x1 : Nat) (x4 : Int32) (x5 : Int32) (S : pm_S) (hrec21 : ∀ (y1 : Int32) (U : pm_S) (r : (Int32 × pm_S)), rec21 y1 U = some r → pmE pG (pm_rel pG sp (d + 5)) mi_Bench_explains 21 [some (.ref x0), some (.ref x1), none, none, some (.int x4), some (.int y1), none, none] [] U (some (.int r.1), r.2)) (r : (Int32 × pm_S)) (h : F_Bench_explains_117 N rec21 x0 x1 x4 x5 S = some r) : pmE pG (pm_rel pG sp (d + 5)) mi_Bench_explains 117 [some (.ref x0), some (.ref x1), none, none, some (.int x4), some (.int x5), none, none] [] S (some (.int r.1), r.2) := by
  unfold F_Bench_explains_117 at h
  refine pE_jump 2 (pc' := 21) (ls' := [some (.ref x0), some (.ref x1), none, none, some (.int x4), some (.int (x5 + 1)), none, none]) (st' := []) (fun _ => rfl) ?_
  exact hrec21 (x5 + 1) S _ h
def F_Bench_explains_115 (N : Nat)   (S : pm_S) : Option (Int32 × pm_S) :=
    some (0, S)
set_option maxHeartbeats 4000000 in
set_option maxRecDepth 20000 in
theorem f_Bench_explains_115 (sp : pm_I → List Value → pm_S → pm_O → Prop) (d N : Nat)   (S : pm_S)  (r : (Int32 × pm_S)) (h : F_Bench_explains_115 N   S = some r) : pmE pG (pm_rel pG sp (d + 5)) mi_Bench_explains 115 [none, none, none, none, none, none, none, none] [] S (some (.int r.1), r.2) := by
  unfold F_Bench_explains_115 at h
  refine pE_jump 1 (pc' := 116) (ls' := [none, none, none, none, none, none, none, none]) (st' := [.int 0]) (fun _ => rfl) ?_
  cases h
  exact pE_ret rfl rfl rfl
def F_Bench_explains_77 (N : Nat) (rec21 : Int32 → pm_S → Option (Int32 × pm_S)) (x0 : Nat) (x1 : Nat) (x4 : Int32) (x5 : Int32) (x6 : Int32) (t0 : Int32) (S : pm_S) : Option (Int32 × pm_S) :=
    if t0 = 0 then
    F_Bench_explains_117 N rec21 x0 x1 x4 x5 S
    else
    ((oR S x1 4 9).bind fun oq17 => match oq17 with
    | none => none
    | some q17 =>
    (F_Ledger_at N S q17 x5 2).bind fun (v19, S18) =>
    (F_Bench_tell N S18 x0 x1 x6 0).bind fun (v21, S20) =>
    if (if 0 ≤ ((v19 / 4) - (v21 / 4)) then ((v19 / 4) - (v21 / 4)) else 0 - ((v19 / 4) - (v21 / 4))) ≤ x4 then
    F_Bench_explains_117 N rec21 x0 x1 x4 x5 S20
    else
    F_Bench_explains_115 N S20)
set_option maxHeartbeats 4000000 in
set_option maxRecDepth 20000 in
theorem f_Bench_explains_77 (sp : pm_I → List Value → pm_S → pm_O → Prop) (d N : Nat) (rec21 : Int32 → pm_S → Option (Int32 × pm_S)) (x0 : Nat) (x1 : Nat) (x4 : Int32) (x5 : Int32) (x6 : Int32) (t0 : Int32) (S : pm_S) (hrec21 : ∀ (y1 : Int32) (U : pm_S) (r : (Int32 × pm_S)), rec21 y1 U = some r → pmE pG (pm_rel pG sp (d + 5)) mi_Bench_explains 21 [some (.ref x0), some (.ref x1), none, none, some (.int x4), some (.int y1), none, none] [] U (some (.int r.1), r.2)) (r : (Int32 × pm_S)) (h : F_Bench_explains_77 N rec21 x0 x1 x4 x5 x6 t0 S = some r) : pmE pG (pm_rel pG sp (d + 5)) mi_Bench_explains 77 [some (.ref x0), some (.ref x1), none, none, some (.int x4), some (.int x5), some (.int x6), none] [.int t0] S (some (.int r.1), r.2) := by
  unfold F_Bench_explains_77 at h
  refine pE_jump 2 (pc' := 81) (ls' := [some (.ref x0), some (.ref x1), none, none, some (.int x4), some (.int x5), some (.int x6), some (.int t0)]) (st' := [.int t0]) (fun _ => rfl) ?_
  refine pE_br (t0 = 0) rfl rfl (fun c23 => ?_) (fun c23 => ?_)
  · rw [if_pos c23] at h
    refine pE_weak [some (.ref x0), some (.ref x1), none, none, some (.int x4), some (.int x5), none, none] ⟨rfl, ⟨rfl, ⟨rfl, ⟨rfl, trivial⟩⟩⟩⟩ ?_
    exact f_Bench_explains_117 sp d N rec21 x0 x1 x4 x5 S hrec21 _ h
  · rw [if_neg c23] at h
    refine pE_jump 1 (pc' := 85) (ls' := [some (.ref x0), some (.ref x1), none, none, some (.int x4), some (.int x5), some (.int x6), some (.int t0)]) (st' := [.ref x1]) (fun _ => rfl) ?_
    obtain ⟨oq17, hq17, h⟩ := obind h
    cases oq17 with
    | none => cases h
    | some q17 =>
      try dsimp only at h
      refine pE_gfS rfl rfl hq17 ?_
      refine pE_jump 2 (pc' := 91) (ls' := [some (.ref x0), some (.ref x1), none, none, some (.int x4), some (.int x5), some (.int x6), some (.int t0)]) (st' := [.int 2, .int x5, .ref q17]) (fun _ => rfl) ?_
      obtain ⟨⟨v19, S18⟩, hv19, h⟩ := obind h
      try dsimp only at h
      refine pE_iv (Bs := [.int x5, .int 2]) (st := []) 1 rfl (Or.inl ⟨rfl, rfl⟩) rfl rfl (Nat.le_of_ble_eq_true rfl) (Nat.le_of_ble_eq_true rfl) (g_Ledger_at hv19) (f_Ledger_at sp (d + 4) N S q17 x5 2 _ hv19) ?_
      refine pE_jump 1 (pc' := 95) (ls' := [some (.ref x0), some (.ref x1), none, none, some (.int x4), some (.int x5), some (.int x6), some (.int t0)]) (st' := [.int 4, .int v19]) (fun _ => rfl) ?_
      refine pE_jump 1 (pc' := 96) (ls' := [some (.ref x0), some (.ref x1), none, none, some (.int x4), some (.int x5), some (.int x6), some (.int t0)]) (st' := [.int (v19 / 4)]) (fun _ => rfl) ?_
      refine pE_jump 4 (pc' := 101) (ls' := [some (.ref x0), some (.ref x1), none, none, some (.int x4), some (.int x5), some (.int x6), some (.int t0)]) (st' := [.int 0, .int x6, .ref x1, .ref x0, .int (v19 / 4)]) (fun _ => rfl) ?_
      obtain ⟨⟨v21, S20⟩, hv21, h⟩ := obind h
      try dsimp only at h
      refine pE_iv (Bs := [.ref x1, .int x6, .int 0]) (st := [.int (v19 / 4)]) 1 rfl (Or.inl ⟨rfl, rfl⟩) rfl rfl (Nat.le_of_ble_eq_true rfl) (Nat.le_of_ble_eq_true rfl) (g_Bench_tell hv21) (f_Bench_tell sp d N S18 x0 x1 x6 0 _ hv21) ?_
      refine pE_jump 1 (pc' := 105) (ls' := [some (.ref x0), some (.ref x1), none, none, some (.int x4), some (.int x5), some (.int x6), some (.int t0)]) (st' := [.int 4, .int v21, .int (v19 / 4)]) (fun _ => rfl) ?_
      refine pE_jump 1 (pc' := 106) (ls' := [some (.ref x0), some (.ref x1), none, none, some (.int x4), some (.int x5), some (.int x6), some (.int t0)]) (st' := [.int (v21 / 4), .int (v19 / 4)]) (fun _ => rfl) ?_
      refine pE_jump 1 (pc' := 107) (ls' := [some (.ref x0), some (.ref x1), none, none, some (.int x4), some (.int x5), some (.int x6), some (.int t0)]) (st' := [.int ((v19 / 4) - (v21 / 4))]) (fun _ => rfl) ?_
      refine pE_mb rfl rfl (Nat.le_of_ble_eq_true rfl) ?_
      refine pE_jump 1 (pc' := 112) (ls' := [some (.ref x0), some (.ref x1), none, none, some (.int x4), some (.int x5), some (.int x6), some (.int t0)]) (st' := [.int x4, .int (if 0 ≤ ((v19 / 4) - (v21 / 4)) then ((v19 / 4) - (v21 / 4)) else 0 - ((v19 / 4) - (v21 / 4)))]) (fun _ => rfl) ?_
      refine pE_br ((if 0 ≤ ((v19 / 4) - (v21 / 4)) then ((v19 / 4) - (v21 / 4)) else 0 - ((v19 / 4) - (v21 / 4))) ≤ x4) rfl rfl (fun c22 => ?_) (fun c22 => ?_)
      · rw [if_pos c22] at h
        refine pE_weak [some (.ref x0), some (.ref x1), none, none, some (.int x4), some (.int x5), none, none] ⟨rfl, ⟨rfl, ⟨rfl, ⟨rfl, trivial⟩⟩⟩⟩ ?_
        exact f_Bench_explains_117 sp d N rec21 x0 x1 x4 x5 S20 hrec21 _ h
      · rw [if_neg c22] at h
        refine pE_weak [none, none, none, none, none, none, none, none] trivial ?_
        exact f_Bench_explains_115 sp d N S20 _ h
def F_Bench_explains_76 (N : Nat) (rec21 : Int32 → pm_S → Option (Int32 × pm_S)) (x0 : Nat) (x1 : Nat) (x4 : Int32) (x5 : Int32) (x6 : Int32) (S : pm_S) : Option (Int32 × pm_S) :=
    F_Bench_explains_77 N rec21 x0 x1 x4 x5 x6 0 S
set_option maxHeartbeats 4000000 in
set_option maxRecDepth 20000 in
theorem f_Bench_explains_76 (sp : pm_I → List Value → pm_S → pm_O → Prop) (d N : Nat) (rec21 : Int32 → pm_S → Option (Int32 × pm_S)) (x0 : Nat) (x1 : Nat) (x4 : Int32) (x5 : Int32) (x6 : Int32) (S : pm_S) (hrec21 : ∀ (y1 : Int32) (U : pm_S) (r : (Int32 × pm_S)), rec21 y1 U = some r → pmE pG (pm_rel pG sp (d + 5)) mi_Bench_explains 21 [some (.ref x0), some (.ref x1), none, none, some (.int x4), some (.int y1), none, none] [] U (some (.int r.1), r.2)) (r : (Int32 × pm_S)) (h : F_Bench_explains_76 N rec21 x0 x1 x4 x5 x6 S = some r) : pmE pG (pm_rel pG sp (d + 5)) mi_Bench_explains 76 [some (.ref x0), some (.ref x1), none, none, some (.int x4), some (.int x5), some (.int x6), none] [] S (some (.int r.1), r.2) := by
  unfold F_Bench_explains_76 at h
  refine pE_jump 1 (pc' := 77) (ls' := [some (.ref x0), some (.ref x1), none, none, some (.int x4), some (.int x5), some (.int x6), none]) (st' := [.int 0]) (fun _ => rfl) ?_
  exact f_Bench_explains_77 sp d N rec21 x0 x1 x4 x5 x6 0 S hrec21 _ h
def B_Bench_explains_21 (N : Nat)  (rec21 : Int32 → pm_S → Option (Int32 × pm_S)) (x0 : Nat) (x1 : Nat) (x4 : Int32) (x5 : Int32) (S : pm_S) : Option (Int32 × pm_S) :=
    (oR S x1 4 9).bind fun oq5 => match oq5 with
    | none => none
    | some q5 =>
    (F_Ledger_size N S q5).bind fun (v7, S6) =>
    if v7 ≤ x5 then
    F_Bench_explains_123 N S6
    else
    ((oR S6 x1 4 9).bind fun oq8 => match oq8 with
    | none => none
    | some q8 =>
    (F_Ledger_at N S6 q8 x5 0).bind fun (v10, S9) =>
    (oR S9 x1 4 8).bind fun oq11 => match oq11 with
    | none => none
    | some q11 =>
    (F_Ledger_at N S9 q11 v10 0).bind fun (v13, S12) =>
    if v13 = 1 then
    ((oR S12 x1 4 9).bind fun oq14 => match oq14 with
    | none => none
    | some q14 =>
    (F_Ledger_at N S12 q14 x5 1).bind fun (v16, S15) =>
    if v16 = 0 then
    F_Bench_explains_77 N rec21 x0 x1 x4 x5 v10 1 S15
    else
    F_Bench_explains_76 N rec21 x0 x1 x4 x5 v10 S15)
    else
    F_Bench_explains_76 N rec21 x0 x1 x4 x5 v10 S12)
def F_Bench_explains_21 (N : Nat)  (x0 : Nat) (x1 : Nat) (x4 : Int32) : Nat → Int32 → pm_S → Option (Int32 × pm_S)
  | 0 => fun _ _ => none
  | n + 1 => fun x5 S => B_Bench_explains_21 N  (F_Bench_explains_21 N  x0 x1 x4 n) x0 x1 x4 x5 S
set_option maxHeartbeats 4000000 in
set_option maxRecDepth 20000 in
theorem f_Bench_explains_21 (sp : pm_I → List Value → pm_S → pm_O → Prop) (d N : Nat)  (x0 : Nat) (x1 : Nat) (x4 : Int32)  : ∀ (n : Nat) (x5 : Int32) (S : pm_S) (r : (Int32 × pm_S)), F_Bench_explains_21 N  x0 x1 x4 n x5 S = some r → pmE pG (pm_rel pG sp (d + 5)) mi_Bench_explains 21 [some (.ref x0), some (.ref x1), none, none, some (.int x4), some (.int x5), none, none] [] S (some (.int r.1), r.2) := by
  intro n
  induction n with
  | zero =>
    intro x5 S r h
    cases h
  | succ n ih =>
    intro x5 S r h
    replace h : B_Bench_explains_21 N  (F_Bench_explains_21 N  x0 x1 x4 n) x0 x1 x4 x5 S = some r := h
    have hrec21 := ih
    generalize F_Bench_explains_21 N  x0 x1 x4 n = rec21 at h hrec21
    unfold B_Bench_explains_21 at h
    refine pE_jump 2 (pc' := 24) (ls' := [some (.ref x0), some (.ref x1), none, none, some (.int x4), some (.int x5), none, none]) (st' := [.ref x1, .int x5]) (fun _ => rfl) ?_
    obtain ⟨oq5, hq5, h⟩ := obind h
    cases oq5 with
    | none => cases h
    | some q5 =>
      try dsimp only at h
      refine pE_gfS rfl rfl hq5 ?_
      obtain ⟨⟨v7, S6⟩, hv7, h⟩ := obind h
      try dsimp only at h
      refine pE_iv (Bs := []) (st := [.int x5]) 1 rfl (Or.inl ⟨rfl, rfl⟩) rfl rfl (Nat.le_of_ble_eq_true rfl) (Nat.le_of_ble_eq_true rfl) (g_Ledger_size hv7) (f_Ledger_size sp (d + 4) N S q5 _ hv7) ?_
      refine pE_br (v7 ≤ x5) rfl rfl (fun c26 => ?_) (fun c26 => ?_)
      · rw [if_pos c26] at h
        refine pE_weak [none, none, none, none, none, none, none, none] trivial ?_
        exact f_Bench_explains_123 sp d N S6 _ h
      · rw [if_neg c26] at h
        refine pE_jump 1 (pc' := 34) (ls' := [some (.ref x0), some (.ref x1), none, none, some (.int x4), some (.int x5), none, none]) (st' := [.ref x1]) (fun _ => rfl) ?_
        obtain ⟨oq8, hq8, h⟩ := obind h
        cases oq8 with
        | none => cases h
        | some q8 =>
          try dsimp only at h
          refine pE_gfS rfl rfl hq8 ?_
          refine pE_jump 2 (pc' := 40) (ls' := [some (.ref x0), some (.ref x1), none, none, some (.int x4), some (.int x5), none, none]) (st' := [.int 0, .int x5, .ref q8]) (fun _ => rfl) ?_
          obtain ⟨⟨v10, S9⟩, hv10, h⟩ := obind h
          try dsimp only at h
          refine pE_iv (Bs := [.int x5, .int 0]) (st := []) 1 rfl (Or.inl ⟨rfl, rfl⟩) rfl rfl (Nat.le_of_ble_eq_true rfl) (Nat.le_of_ble_eq_true rfl) (g_Ledger_at hv10) (f_Ledger_at sp (d + 4) N S6 q8 x5 0 _ hv10) ?_
          refine pE_jump 2 (pc' := 46) (ls' := [some (.ref x0), some (.ref x1), none, none, some (.int x4), some (.int x5), some (.int v10), none]) (st' := [.ref x1]) (fun _ => rfl) ?_
          obtain ⟨oq11, hq11, h⟩ := obind h
          cases oq11 with
          | none => cases h
          | some q11 =>
            try dsimp only at h
            refine pE_gfS rfl rfl hq11 ?_
            refine pE_jump 2 (pc' := 52) (ls' := [some (.ref x0), some (.ref x1), none, none, some (.int x4), some (.int x5), some (.int v10), none]) (st' := [.int 0, .int v10, .ref q11]) (fun _ => rfl) ?_
            obtain ⟨⟨v13, S12⟩, hv13, h⟩ := obind h
            try dsimp only at h
            refine pE_iv (Bs := [.int v10, .int 0]) (st := []) 1 rfl (Or.inl ⟨rfl, rfl⟩) rfl rfl (Nat.le_of_ble_eq_true rfl) (Nat.le_of_ble_eq_true rfl) (g_Ledger_at hv13) (f_Ledger_at sp (d + 4) N S9 q11 v10 0 _ hv13) ?_
            refine pE_jump 1 (pc' := 56) (ls' := [some (.ref x0), some (.ref x1), none, none, some (.int x4), some (.int x5), some (.int v10), none]) (st' := [.int 1, .int v13]) (fun _ => rfl) ?_
            refine pE_br (¬ v13 = 1) rfl rfl (fun c25 => ?_) (fun c25 => ?_)
            · rw [if_neg c25] at h
              exact f_Bench_explains_76 sp d N rec21 x0 x1 x4 x5 v10 S12 hrec21 _ h
            · have c25 := Decidable.not_not.mp c25
              rw [if_pos c25] at h
              refine pE_jump 1 (pc' := 60) (ls' := [some (.ref x0), some (.ref x1), none, none, some (.int x4), some (.int x5), some (.int v10), none]) (st' := [.ref x1]) (fun _ => rfl) ?_
              obtain ⟨oq14, hq14, h⟩ := obind h
              cases oq14 with
              | none => cases h
              | some q14 =>
                try dsimp only at h
                refine pE_gfS rfl rfl hq14 ?_
                refine pE_jump 2 (pc' := 66) (ls' := [some (.ref x0), some (.ref x1), none, none, some (.int x4), some (.int x5), some (.int v10), none]) (st' := [.int 1, .int x5, .ref q14]) (fun _ => rfl) ?_
                obtain ⟨⟨v16, S15⟩, hv16, h⟩ := obind h
                try dsimp only at h
                refine pE_iv (Bs := [.int x5, .int 1]) (st := []) 1 rfl (Or.inl ⟨rfl, rfl⟩) rfl rfl (Nat.le_of_ble_eq_true rfl) (Nat.le_of_ble_eq_true rfl) (g_Ledger_at hv16) (f_Ledger_at sp (d + 4) N S12 q14 x5 1 _ hv16) ?_
                refine pE_br (¬ v16 = 0) rfl rfl (fun c24 => ?_) (fun c24 => ?_)
                · rw [if_neg c24] at h
                  exact f_Bench_explains_76 sp d N rec21 x0 x1 x4 x5 v10 S15 hrec21 _ h
                · have c24 := Decidable.not_not.mp c24
                  rw [if_pos c24] at h
                  refine pE_jump 2 (pc' := 77) (ls' := [some (.ref x0), some (.ref x1), none, none, some (.int x4), some (.int x5), some (.int v10), none]) (st' := [.int 1]) (fun _ => rfl) ?_
                  exact f_Bench_explains_77 sp d N rec21 x0 x1 x4 x5 v10 1 S15 hrec21 _ h
def F_Bench_explains (N : Nat) (S : pm_S) (a : Nat) (p0 : Nat) (p1 : Int32) (p2 : Int32) (p3 : Int32) : Option (Int32 × pm_S) :=
    if rcv S a 0 = true then
    ((oR S a 0 0).bind fun oq1 => match oq1 with
    | none => none
    | some q1 =>
    (F_Wires_lay N S q1 p0 0).bind fun S2 =>
    (oR S2 a 0 0).bind fun oq3 => match oq3 with
    | none => none
    | some q3 =>
    (F_Wires_cut N S2 q3 p1 p2).bind fun S4 =>
    F_Bench_explains_21 N a p0 p3 N 0 S4)
    else none
theorem g_Bench_explains {N : Nat} {S : pm_S} {a : Nat} {p0 : Nat} {p1 : Int32} {p2 : Int32} {p3 : Int32} {r : (Int32 × pm_S)} (h : F_Bench_explains N S a p0 p1 p2 p3 = some r) : rcv S a 0 = true := by
  unfold F_Bench_explains at h
  by_cases c : rcv S a 0 = true
  · exact c
  · rw [if_neg c] at h; cases h
set_option maxHeartbeats 4000000 in
set_option maxRecDepth 20000 in
theorem f_Bench_explains (sp : pm_I → List Value → pm_S → pm_O → Prop) (d N : Nat) (S : pm_S) (a : Nat) (p0 : Nat) (p1 : Int32) (p2 : Int32) (p3 : Int32) (r : (Int32 × pm_S)) (h : F_Bench_explains N S a p0 p1 p2 p3 = some r) : pm_rel pG sp (d + 6) mi_Bench_explains [.ref a, .ref p0, .int p1, .int p2, .int p3] S (some (.int r.1), r.2) := by
  have hg := g_Bench_explains h
  unfold F_Bench_explains at h
  rw [if_pos hg] at h
  refine pE_rel (d := d + 5) ?_
  show pmE pG _ mi_Bench_explains 0 [some (.ref a), some (.ref p0), some (.int p1), some (.int p2), some (.int p3), none, none, none] [] S _
  refine pE_jump 1 (pc' := 1) (ls' := [some (.ref a), some (.ref p0), some (.int p1), some (.int p2), some (.int p3), none, none, none]) (st' := [.ref a]) (fun _ => rfl) ?_
  obtain ⟨oq1, hq1, h⟩ := obind h
  cases oq1 with
  | none => cases h
  | some q1 =>
    try dsimp only at h
    refine pE_gfS rfl rfl hq1 ?_
    refine pE_jump 2 (pc' := 6) (ls' := [some (.ref a), some (.ref p0), some (.int p1), some (.int p2), some (.int p3), none, none, none]) (st' := [.int 0, .ref p0, .ref q1]) (fun _ => rfl) ?_
    obtain ⟨S2, hS2, h⟩ := obind h
    refine pE_iv (Bs := [.ref p0, .int 0]) (st := []) 1 rfl (Or.inl ⟨rfl, rfl⟩) rfl rfl (Nat.le_of_ble_eq_true rfl) (Nat.le_of_ble_eq_true rfl) (g_Wires_lay hS2) (f_Wires_lay sp d N S q1 p0 0 _ hS2) ?_
    refine pE_jump 1 (pc' := 10) (ls' := [some (.ref a), some (.ref p0), some (.int p1), some (.int p2), some (.int p3), none, none, none]) (st' := [.ref a]) (fun _ => rfl) ?_
    obtain ⟨oq3, hq3, h⟩ := obind h
    cases oq3 with
    | none => cases h
    | some q3 =>
      try dsimp only at h
      refine pE_gfS rfl rfl hq3 ?_
      refine pE_jump 2 (pc' := 15) (ls' := [some (.ref a), some (.ref p0), some (.int p1), some (.int p2), some (.int p3), none, none, none]) (st' := [.int p2, .int p1, .ref q3]) (fun _ => rfl) ?_
      obtain ⟨S4, hS4, h⟩ := obind h
      refine pE_iv (Bs := [.int p1, .int p2]) (st := []) 1 rfl (Or.inl ⟨rfl, rfl⟩) rfl rfl (Nat.le_of_ble_eq_true rfl) (Nat.le_of_ble_eq_true rfl) (g_Wires_cut hS4) (f_Wires_cut sp (d + 3) N S2 q3 p1 p2 _ hS4) ?_
      refine pE_jump 2 (pc' := 21) (ls' := [some (.ref a), some (.ref p0), some (.int p1), some (.int p2), some (.int p3), some (.int 0), none, none]) (st' := []) (fun _ => rfl) ?_
      refine pE_weak [some (.ref a), some (.ref p0), none, none, some (.int p3), some (.int 0), none, none] ⟨rfl, ⟨rfl, ⟨rfl, ⟨rfl, trivial⟩⟩⟩⟩ ?_
      exact f_Bench_explains_21 sp d N a p0 p3 N 0 S4 _ h
def F_Bench_breakAt_52 (N : Nat)  (x5 : Int32) (S : pm_S) : Option (Int32 × pm_S) :=
    some (x5, S)
set_option maxHeartbeats 4000000 in
set_option maxRecDepth 20000 in
theorem f_Bench_breakAt_52 (sp : pm_I → List Value → pm_S → pm_O → Prop) (d N : Nat)  (x5 : Int32) (S : pm_S)  (r : (Int32 × pm_S)) (h : F_Bench_breakAt_52 N  x5 S = some r) : pmE pG (pm_rel pG sp (d + 6)) mi_Bench_breakAt 52 [none, none, none, none, none, some (.int x5), none] [] S (some (.int r.1), r.2) := by
  unfold F_Bench_breakAt_52 at h
  refine pE_jump 1 (pc' := 54) (ls' := [none, none, none, none, none, some (.int x5), none]) (st' := [.int x5]) (fun _ => rfl) ?_
  cases h
  exact pE_ret rfl rfl rfl
def F_Bench_breakAt_46 (N : Nat) (rec6 : Int32 → Int32 → pm_S → Option (Int32 × pm_S)) (x0 : Nat) (x1 : Nat) (x2 : Int32) (x3 : Int32) (x4 : Int32) (x5 : Int32) (x6 : Int32) (S : pm_S) : Option (Int32 × pm_S) :=
    rec6 x5 (x6 + 1) S
set_option maxHeartbeats 4000000 in
set_option maxRecDepth 20000 in
theorem f_Bench_breakAt_46 (sp : pm_I → List Value → pm_S → pm_O → Prop) (d N : Nat) (rec6 : Int32 → Int32 → pm_S → Option (Int32 × pm_S)) (x0 : Nat) (x1 : Nat) (x2 : Int32) (x3 : Int32) (x4 : Int32) (x5 : Int32) (x6 : Int32) (S : pm_S) (hrec6 : ∀ (y1 : Int32) (y2 : Int32) (U : pm_S) (r : (Int32 × pm_S)), rec6 y1 y2 U = some r → pmE pG (pm_rel pG sp (d + 6)) mi_Bench_breakAt 6 [some (.ref x0), some (.ref x1), some (.int x2), some (.int x3), some (.int x4), some (.int y1), some (.int y2)] [] U (some (.int r.1), r.2)) (r : (Int32 × pm_S)) (h : F_Bench_breakAt_46 N rec6 x0 x1 x2 x3 x4 x5 x6 S = some r) : pmE pG (pm_rel pG sp (d + 6)) mi_Bench_breakAt 46 [some (.ref x0), some (.ref x1), some (.int x2), some (.int x3), some (.int x4), some (.int x5), some (.int x6)] [] S (some (.int r.1), r.2) := by
  unfold F_Bench_breakAt_46 at h
  refine pE_jump 2 (pc' := 6) (ls' := [some (.ref x0), some (.ref x1), some (.int x2), some (.int x3), some (.int x4), some (.int x5), some (.int (x6 + 1))]) (st' := []) (fun _ => rfl) ?_
  exact hrec6 x5 (x6 + 1) S _ h
def F_Bench_breakAt_30 (N : Nat) (rec6 : Int32 → Int32 → pm_S → Option (Int32 × pm_S)) (x0 : Nat) (x1 : Nat) (x2 : Int32) (x3 : Int32) (x4 : Int32) (x5 : Int32) (x6 : Int32) (S : pm_S) : Option (Int32 × pm_S) :=
    (F_Bench_explains N S x0 x1 x2 x6 x3).bind fun (v6, S5) =>
    if v6 = 0 then
    F_Bench_breakAt_46 N rec6 x0 x1 x2 x3 x4 x5 x6 S5
    else
    F_Bench_breakAt_46 N rec6 x0 x1 x2 x3 x4 x6 x6 S5
set_option maxHeartbeats 4000000 in
set_option maxRecDepth 20000 in
theorem f_Bench_breakAt_30 (sp : pm_I → List Value → pm_S → pm_O → Prop) (d N : Nat) (rec6 : Int32 → Int32 → pm_S → Option (Int32 × pm_S)) (x0 : Nat) (x1 : Nat) (x2 : Int32) (x3 : Int32) (x4 : Int32) (x5 : Int32) (x6 : Int32) (S : pm_S) (hrec6 : ∀ (y1 : Int32) (y2 : Int32) (U : pm_S) (r : (Int32 × pm_S)), rec6 y1 y2 U = some r → pmE pG (pm_rel pG sp (d + 6)) mi_Bench_breakAt 6 [some (.ref x0), some (.ref x1), some (.int x2), some (.int x3), some (.int x4), some (.int y1), some (.int y2)] [] U (some (.int r.1), r.2)) (r : (Int32 × pm_S)) (h : F_Bench_breakAt_30 N rec6 x0 x1 x2 x3 x4 x5 x6 S = some r) : pmE pG (pm_rel pG sp (d + 6)) mi_Bench_breakAt 30 [some (.ref x0), some (.ref x1), some (.int x2), some (.int x3), some (.int x4), some (.int x5), some (.int x6)] [] S (some (.int r.1), r.2) := by
  unfold F_Bench_breakAt_30 at h
  refine pE_jump 5 (pc' := 36) (ls' := [some (.ref x0), some (.ref x1), some (.int x2), some (.int x3), some (.int x4), some (.int x5), some (.int x6)]) (st' := [.int x3, .int x6, .int x2, .ref x1, .ref x0]) (fun _ => rfl) ?_
  obtain ⟨⟨v6, S5⟩, hv6, h⟩ := obind h
  try dsimp only at h
  refine pE_iv (Bs := [.ref x1, .int x2, .int x6, .int x3]) (st := []) 1 rfl (Or.inl ⟨rfl, rfl⟩) rfl rfl (Nat.le_of_ble_eq_true rfl) (Nat.le_of_ble_eq_true rfl) (g_Bench_explains hv6) (f_Bench_explains sp d N S x0 x1 x2 x6 x3 _ hv6) ?_
  refine pE_br (v6 = 0) rfl rfl (fun c7 => ?_) (fun c7 => ?_)
  · rw [if_pos c7] at h
    exact f_Bench_breakAt_46 sp d N rec6 x0 x1 x2 x3 x4 x5 x6 S5 hrec6 _ h
  · rw [if_neg c7] at h
    refine pE_jump 2 (pc' := 46) (ls' := [some (.ref x0), some (.ref x1), some (.int x2), some (.int x3), some (.int x4), some (.int x6), some (.int x6)]) (st' := []) (fun _ => rfl) ?_
    exact f_Bench_breakAt_46 sp d N rec6 x0 x1 x2 x3 x4 x6 x6 S5 hrec6 _ h
def B_Bench_breakAt_6 (N : Nat)  (rec6 : Int32 → Int32 → pm_S → Option (Int32 × pm_S)) (x0 : Nat) (x1 : Nat) (x2 : Int32) (x3 : Int32) (x4 : Int32) (x5 : Int32) (x6 : Int32) (S : pm_S) : Option (Int32 × pm_S) :=
    (F_BP_cableOf N S x2).bind fun (v2, S1) =>
    (F_Plan_lengthOf N S1 x1 v2).bind fun (v4, S3) =>
    if v4 < x6 then
    F_Bench_breakAt_52 N x5 S3
    else
    (if x5 = (-1) then
    F_Bench_breakAt_30 N rec6 x0 x1 x2 x3 x4 x5 x6 S3
    else
    (if x4 = 0 then
    F_Bench_breakAt_46 N rec6 x0 x1 x2 x3 x4 x5 x6 S3
    else
    F_Bench_breakAt_30 N rec6 x0 x1 x2 x3 x4 x5 x6 S3))
def F_Bench_breakAt_6 (N : Nat)  (x0 : Nat) (x1 : Nat) (x2 : Int32) (x3 : Int32) (x4 : Int32) : Nat → Int32 → Int32 → pm_S → Option (Int32 × pm_S)
  | 0 => fun _ _ _ => none
  | n + 1 => fun x5 x6 S => B_Bench_breakAt_6 N  (F_Bench_breakAt_6 N  x0 x1 x2 x3 x4 n) x0 x1 x2 x3 x4 x5 x6 S
set_option maxHeartbeats 4000000 in
set_option maxRecDepth 20000 in
theorem f_Bench_breakAt_6 (sp : pm_I → List Value → pm_S → pm_O → Prop) (d N : Nat)  (x0 : Nat) (x1 : Nat) (x2 : Int32) (x3 : Int32) (x4 : Int32)  : ∀ (n : Nat) (x5 : Int32) (x6 : Int32) (S : pm_S) (r : (Int32 × pm_S)), F_Bench_breakAt_6 N  x0 x1 x2 x3 x4 n x5 x6 S = some r → pmE pG (pm_rel pG sp (d + 6)) mi_Bench_breakAt 6 [some (.ref x0), some (.ref x1), some (.int x2), some (.int x3), some (.int x4), some (.int x5), some (.int x6)] [] S (some (.int r.1), r.2) := by
  intro n
  induction n with
  | zero =>
    intro x5 x6 S r h
    cases h
  | succ n ih =>
    intro x5 x6 S r h
    replace h : B_Bench_breakAt_6 N  (F_Bench_breakAt_6 N  x0 x1 x2 x3 x4 n) x0 x1 x2 x3 x4 x5 x6 S = some r := h
    have hrec6 := ih
    generalize F_Bench_breakAt_6 N  x0 x1 x2 x3 x4 n = rec6 at h hrec6
    unfold B_Bench_breakAt_6 at h
    refine pE_jump 3 (pc' := 10) (ls' := [some (.ref x0), some (.ref x1), some (.int x2), some (.int x3), some (.int x4), some (.int x5), some (.int x6)]) (st' := [.int x2, .ref x1, .int x6]) (fun _ => rfl) ?_
    obtain ⟨⟨v2, S1⟩, hv2, h⟩ := obind h
    try dsimp only at h
    refine pE_is (Bs := [.int x2]) (st := [.ref x1, .int x6]) rfl rfl rfl (Nat.le_of_ble_eq_true rfl) (Nat.le_of_ble_eq_true rfl) (f_BP_cableOf sp (d + 5) N S x2 _ hv2) ?_
    obtain ⟨⟨v4, S3⟩, hv4, h⟩ := obind h
    try dsimp only at h
    refine pE_iv (Bs := [.int v2]) (st := [.int x6]) 1 rfl (Or.inl ⟨rfl, rfl⟩) rfl rfl (Nat.le_of_ble_eq_true rfl) (Nat.le_of_ble_eq_true rfl) (g_Plan_lengthOf hv4) (f_Plan_lengthOf sp (d + 4) N S1 x1 v2 _ hv4) ?_
    refine pE_br (v4 < x6) rfl rfl (fun c10 => ?_) (fun c10 => ?_)
    · rw [if_pos c10] at h
      refine pE_weak [none, none, none, none, none, some (.int x5), none] ⟨rfl, trivial⟩ ?_
      exact f_Bench_breakAt_52 sp d N x5 S3 _ h
    · rw [if_neg c10] at h
      refine pE_jump 2 (pc' := 22) (ls' := [some (.ref x0), some (.ref x1), some (.int x2), some (.int x3), some (.int x4), some (.int x5), some (.int x6)]) (st' := [.int (-1), .int x5]) (fun _ => rfl) ?_
      refine pE_br (x5 = (-1)) rfl rfl (fun c9 => ?_) (fun c9 => ?_)
      · rw [if_pos c9] at h
        exact f_Bench_breakAt_30 sp d N rec6 x0 x1 x2 x3 x4 x5 x6 S3 hrec6 _ h
      · rw [if_neg c9] at h
        refine pE_jump 1 (pc' := 27) (ls' := [some (.ref x0), some (.ref x1), some (.int x2), some (.int x3), some (.int x4), some (.int x5), some (.int x6)]) (st' := [.int x4]) (fun _ => rfl) ?_
        refine pE_br (x4 = 0) rfl rfl (fun c8 => ?_) (fun c8 => ?_)
        · rw [if_pos c8] at h
          exact f_Bench_breakAt_46 sp d N rec6 x0 x1 x2 x3 x4 x5 x6 S3 hrec6 _ h
        · rw [if_neg c8] at h
          exact f_Bench_breakAt_30 sp d N rec6 x0 x1 x2 x3 x4 x5 x6 S3 hrec6 _ h
def F_Bench_breakAt (N : Nat) (S : pm_S) (a : Nat) (p0 : Nat) (p1 : Int32) (p2 : Int32) (p3 : Int32) : Option (Int32 × pm_S) :=
    if rcv S a 0 = true then
    (F_Bench_breakAt_6 N a p0 p1 p2 p3 N (-1) 0 S)
    else none
theorem g_Bench_breakAt {N : Nat} {S : pm_S} {a : Nat} {p0 : Nat} {p1 : Int32} {p2 : Int32} {p3 : Int32} {r : (Int32 × pm_S)} (h : F_Bench_breakAt N S a p0 p1 p2 p3 = some r) : rcv S a 0 = true := by
  unfold F_Bench_breakAt at h
  by_cases c : rcv S a 0 = true
  · exact c
  · rw [if_neg c] at h; cases h
set_option maxHeartbeats 4000000 in
set_option maxRecDepth 20000 in
theorem f_Bench_breakAt (sp : pm_I → List Value → pm_S → pm_O → Prop) (d N : Nat) (S : pm_S) (a : Nat) (p0 : Nat) (p1 : Int32) (p2 : Int32) (p3 : Int32) (r : (Int32 × pm_S)) (h : F_Bench_breakAt N S a p0 p1 p2 p3 = some r) : pm_rel pG sp (d + 7) mi_Bench_breakAt [.ref a, .ref p0, .int p1, .int p2, .int p3] S (some (.int r.1), r.2) := by
  have hg := g_Bench_breakAt h
  unfold F_Bench_breakAt at h
  rw [if_pos hg] at h
  refine pE_rel (d := d + 6) ?_
  show pmE pG _ mi_Bench_breakAt 0 [some (.ref a), some (.ref p0), some (.int p1), some (.int p2), some (.int p3), none, none] [] S _
  refine pE_jump 4 (pc' := 6) (ls' := [some (.ref a), some (.ref p0), some (.int p1), some (.int p2), some (.int p3), some (.int (-1)), some (.int 0)]) (st' := []) (fun _ => rfl) ?_
  exact f_Bench_breakAt_6 sp d N a p0 p1 p2 p3 N (-1) 0 S _ h
def F_BP_distance_38 (N : Nat)   (S : pm_S) : Option (Int32 × pm_S) :=
    some ((-1), S)
set_option maxHeartbeats 4000000 in
set_option maxRecDepth 20000 in
theorem f_BP_distance_38 (sp : pm_I → List Value → pm_S → pm_O → Prop) (d N : Nat)   (S : pm_S)  (r : (Int32 × pm_S)) (h : F_BP_distance_38 N   S = some r) : pmE pG (pm_rel pG sp (d + 7)) mi_BP_distance 38 [none, none, none, none, none, none, none] [] S (some (.int r.1), r.2) := by
  unfold F_BP_distance_38 at h
  refine pE_jump 1 (pc' := 39) (ls' := [none, none, none, none, none, none, none]) (st' := [.int (-1)]) (fun _ => rfl) ?_
  cases h
  exact pE_ret rfl rfl rfl
def F_BP_distance_64_2 (N : Nat)  (t0 : Int32) (t1 : Int32) (t2 : Int32) (t3 : Nat) (t4 : Nat) (S : pm_S) : Option (Int32 × pm_S) :=
    (F_Bench_breakAt N S t4 t3 t2 t1 t0).bind fun (v11, S10) =>
    some (v11, S10)
set_option maxHeartbeats 4000000 in
set_option maxRecDepth 20000 in
theorem f_BP_distance_64_2 (sp : pm_I → List Value → pm_S → pm_O → Prop) (d N : Nat)  (t0 : Int32) (t1 : Int32) (t2 : Int32) (t3 : Nat) (t4 : Nat) (S : pm_S)  (r : (Int32 × pm_S)) (h : F_BP_distance_64_2 N  t0 t1 t2 t3 t4 S = some r) : pmE pG (pm_rel pG sp (d + 7)) mi_BP_distance 64 [none, none, none, none, none, none, none] [.int t0, .int t1, .int t2, .ref t3, .ref t4] S (some (.int r.1), r.2) := by
  unfold F_BP_distance_64_2 at h
  obtain ⟨⟨v11, S10⟩, hv11, h⟩ := obind h
  try dsimp only at h
  refine pE_iv (Bs := [.ref t3, .int t2, .int t1, .int t0]) (st := []) 1 rfl (Or.inl ⟨rfl, rfl⟩) rfl rfl (Nat.le_of_ble_eq_true rfl) (Nat.le_of_ble_eq_true rfl) (g_Bench_breakAt hv11) (f_Bench_breakAt sp d N S t4 t3 t2 t1 t0 _ hv11) ?_
  cases h
  exact pE_ret rfl rfl rfl
def F_BP_distance (N : Nat) (S : pm_S) (a : Nat) (p0 : Int32) (p1 : Int32) (p2 : Int32) (p3 : Int32) (p4 : Int32) : Option (Int32 × pm_S) :=
    if rcv S a 10 = true then
    ((F_BP_planAt N S a p0).bind fun (oq2, S1) => match oq2 with
    | none => F_BP_distance_38 N S1
    | some q2 =>
    (F_Plan_hasPair N S1 q2 p1 p2).bind fun (v4, S3) =>
    if v4 = 0 then
    F_BP_distance_38 N S3
    else
    (if p3 < 0 then
    F_BP_distance_38 N S3
    else
    (if p4 < 0 then
    F_BP_distance_38 N S3
    else
    (if p4 ≤ 1 then
    ((oR S3 a 10 3).bind fun oq5 => match oq5 with
    | none => none
    | some q5 =>
    (F_BP_siteOf N S3 p1 p2).bind fun (v9, S8) =>
    if p4 = 1 then
    F_BP_distance_64_2 N 1 p3 v9 q2 q5 S8
    else
    F_BP_distance_64_2 N 0 p3 v9 q2 q5 S8)
    else
    F_BP_distance_38 N S3))))
    else none
theorem g_BP_distance {N : Nat} {S : pm_S} {a : Nat} {p0 : Int32} {p1 : Int32} {p2 : Int32} {p3 : Int32} {p4 : Int32} {r : (Int32 × pm_S)} (h : F_BP_distance N S a p0 p1 p2 p3 p4 = some r) : rcv S a 10 = true := by
  unfold F_BP_distance at h
  by_cases c : rcv S a 10 = true
  · exact c
  · rw [if_neg c] at h; cases h
set_option maxHeartbeats 4000000 in
set_option maxRecDepth 20000 in
theorem f_BP_distance (sp : pm_I → List Value → pm_S → pm_O → Prop) (d N : Nat) (S : pm_S) (a : Nat) (p0 : Int32) (p1 : Int32) (p2 : Int32) (p3 : Int32) (p4 : Int32) (r : (Int32 × pm_S)) (h : F_BP_distance N S a p0 p1 p2 p3 p4 = some r) : pm_rel pG sp (d + 8) mi_BP_distance [.ref a, .int p0, .int p1, .int p2, .int p3, .int p4] S (some (.int r.1), r.2) := by
  have hg := g_BP_distance h
  unfold F_BP_distance at h
  rw [if_pos hg] at h
  refine pE_rel (d := d + 7) ?_
  show pmE pG _ mi_BP_distance 0 [some (.ref a), some (.int p0), some (.int p1), some (.int p2), some (.int p3), some (.int p4), none] [] S _
  refine pE_jump 2 (pc' := 2) (ls' := [some (.ref a), some (.int p0), some (.int p1), some (.int p2), some (.int p3), some (.int p4), none]) (st' := [.int p0, .ref a]) (fun _ => rfl) ?_
  obtain ⟨⟨oq2, S1⟩, hq2, h⟩ := obind h
  try dsimp only at h
  cases oq2 with
  | none =>
    try dsimp only at h
    refine pE_iv (Bs := [.int p0]) (st := []) 1 rfl (Or.inl ⟨rfl, rfl⟩) rfl rfl (Nat.le_of_ble_eq_true rfl) (Nat.le_of_ble_eq_true rfl) (g_BP_planAt hq2) (f_BP_planAt sp (d + 6) N S a p0 _ hq2) ?_
    refine pE_jump 3 (pc' := 38) (ls' := [some (.ref a), some (.int p0), some (.int p1), some (.int p2), some (.int p3), some (.int p4), some (.null)]) (st' := []) (fun _ => rfl) ?_
    refine pE_weak [none, none, none, none, none, none, none] trivial ?_
    exact f_BP_distance_38 sp d N S1 _ h
  | some q2 =>
    try dsimp only at h
    refine pE_iv (Bs := [.int p0]) (st := []) 1 rfl (Or.inl ⟨rfl, rfl⟩) rfl rfl (Nat.le_of_ble_eq_true rfl) (Nat.le_of_ble_eq_true rfl) (g_BP_planAt hq2) (f_BP_planAt sp (d + 6) N S a p0 _ hq2) ?_
    refine pE_jump 6 (pc' := 16) (ls' := [some (.ref a), some (.int p0), some (.int p1), some (.int p2), some (.int p3), some (.int p4), some (.ref q2)]) (st' := [.int p2, .int p1, .ref q2]) (fun _ => rfl) ?_
    obtain ⟨⟨v4, S3⟩, hv4, h⟩ := obind h
    try dsimp only at h
    refine pE_iv (Bs := [.int p1, .int p2]) (st := []) 1 rfl (Or.inl ⟨rfl, rfl⟩) rfl rfl (Nat.le_of_ble_eq_true rfl) (Nat.le_of_ble_eq_true rfl) (g_Plan_hasPair hv4) (f_Plan_hasPair sp (d + 4) N S1 q2 p1 p2 _ hv4) ?_
    refine pE_br (v4 = 0) rfl rfl (fun c16 => ?_) (fun c16 => ?_)
    · rw [if_pos c16] at h
      refine pE_weak [none, none, none, none, none, none, none] trivial ?_
      exact f_BP_distance_38 sp d N S3 _ h
    · rw [if_neg c16] at h
      refine pE_jump 1 (pc' := 24) (ls' := [some (.ref a), some (.int p0), some (.int p1), some (.int p2), some (.int p3), some (.int p4), some (.ref q2)]) (st' := [.int p3]) (fun _ => rfl) ?_
      refine pE_br (p3 < 0) rfl rfl (fun c15 => ?_) (fun c15 => ?_)
      · rw [if_pos c15] at h
        refine pE_weak [none, none, none, none, none, none, none] trivial ?_
        exact f_BP_distance_38 sp d N S3 _ h
      · rw [if_neg c15] at h
        refine pE_jump 1 (pc' := 29) (ls' := [some (.ref a), some (.int p0), some (.int p1), some (.int p2), some (.int p3), some (.int p4), some (.ref q2)]) (st' := [.int p4]) (fun _ => rfl) ?_
        refine pE_br (p4 < 0) rfl rfl (fun c14 => ?_) (fun c14 => ?_)
        · rw [if_pos c14] at h
          refine pE_weak [none, none, none, none, none, none, none] trivial ?_
          exact f_BP_distance_38 sp d N S3 _ h
        · rw [if_neg c14] at h
          refine pE_jump 2 (pc' := 35) (ls' := [some (.ref a), some (.int p0), some (.int p1), some (.int p2), some (.int p3), some (.int p4), some (.ref q2)]) (st' := [.int 1, .int p4]) (fun _ => rfl) ?_
          refine pE_br (p4 ≤ 1) rfl rfl (fun c13 => ?_) (fun c13 => ?_)
          · rw [if_pos c13] at h
            refine pE_jump 1 (pc' := 41) (ls' := [some (.ref a), some (.int p0), some (.int p1), some (.int p2), some (.int p3), some (.int p4), some (.ref q2)]) (st' := [.ref a]) (fun _ => rfl) ?_
            obtain ⟨oq5, hq5, h⟩ := obind h
            cases oq5 with
            | none => cases h
            | some q5 =>
              try dsimp only at h
              refine pE_gfS rfl rfl hq5 ?_
              refine pE_jump 3 (pc' := 48) (ls' := [some (.ref a), some (.int p0), some (.int p1), some (.int p2), some (.int p3), some (.int p4), some (.ref q2)]) (st' := [.int p2, .int p1, .ref q2, .ref q5]) (fun _ => rfl) ?_
              obtain ⟨⟨v9, S8⟩, hv9, h⟩ := obind h
              try dsimp only at h
              refine pE_is (Bs := [.int p1, .int p2]) (st := [.ref q2, .ref q5]) rfl rfl rfl (Nat.le_of_ble_eq_true rfl) (Nat.le_of_ble_eq_true rfl) (f_BP_siteOf sp (d + 6) N S3 p1 p2 _ hv9) ?_
              refine pE_jump 3 (pc' := 56) (ls' := [some (.ref a), some (.int p0), some (.int p1), some (.int p2), some (.int p3), some (.int p4), some (.ref q2)]) (st' := [.int 1, .int p4, .int p3, .int v9, .ref q2, .ref q5]) (fun _ => rfl) ?_
              refine pE_br (¬ p4 = 1) rfl rfl (fun c12 => ?_) (fun c12 => ?_)
              · rw [if_neg c12] at h
                refine pE_jump 1 (pc' := 64) (ls' := [some (.ref a), some (.int p0), some (.int p1), some (.int p2), some (.int p3), some (.int p4), some (.ref q2)]) (st' := [.int 0, .int p3, .int v9, .ref q2, .ref q5]) (fun _ => rfl) ?_
                refine pE_weak [none, none, none, none, none, none, none] trivial ?_
                exact f_BP_distance_64_2 sp d N 0 p3 v9 q2 q5 S8 _ h
              · have c12 := Decidable.not_not.mp c12
                rw [if_pos c12] at h
                refine pE_jump 2 (pc' := 64) (ls' := [some (.ref a), some (.int p0), some (.int p1), some (.int p2), some (.int p3), some (.int p4), some (.ref q2)]) (st' := [.int 1, .int p3, .int v9, .ref q2, .ref q5]) (fun _ => rfl) ?_
                refine pE_weak [none, none, none, none, none, none, none] trivial ?_
                exact f_BP_distance_64_2 sp d N 1 p3 v9 q2 q5 S8 _ h
          · rw [if_neg c13] at h
            refine pE_weak [none, none, none, none, none, none, none] trivial ?_
            exact f_BP_distance_38 sp d N S3 _ h
def F_Plan_isWantedByOther_78 (N : Nat)   (S : pm_S) : Option (Int32 × pm_S) :=
    some (0, S)
set_option maxHeartbeats 4000000 in
set_option maxRecDepth 20000 in
theorem f_Plan_isWantedByOther_78 (sp : pm_I → List Value → pm_S → pm_O → Prop) (d N : Nat)   (S : pm_S)  (r : (Int32 × pm_S)) (h : F_Plan_isWantedByOther_78 N   S = some r) : pmE pG (pm_rel pG sp (d + 1)) mi_Plan_isWantedByOther 78 [none, none, none, none, none, none, none] [] S (some (.int r.1), r.2) := by
  unfold F_Plan_isWantedByOther_78 at h
  refine pE_jump 1 (pc' := 79) (ls' := [none, none, none, none, none, none, none]) (st' := [.int 0]) (fun _ => rfl) ?_
  cases h
  exact pE_ret rfl rfl rfl
def F_Plan_isWantedByOther_72 (N : Nat) (rec3 : Int32 → pm_S → Option (Int32 × pm_S)) (x0 : Nat) (x1 : Int32) (x2 : Int32) (x3 : Int32) (x4 : Int32) (S : pm_S) : Option (Int32 × pm_S) :=
    rec3 (x4 + 1) S
set_option maxHeartbeats 4000000 in
set_option maxRecDepth 20000 in
theorem f_Plan_isWantedByOther_72 (sp : pm_I → List Value → pm_S → pm_O → Prop) (d N : Nat) (rec3 : Int32 → pm_S → Option (Int32 × pm_S)) (x0 : Nat) (x1 : Int32) (x2 : Int32) (x3 : Int32) (x4 : Int32) (S : pm_S) (hrec3 : ∀ (y1 : Int32) (U : pm_S) (r : (Int32 × pm_S)), rec3 y1 U = some r → pmE pG (pm_rel pG sp (d + 1)) mi_Plan_isWantedByOther 3 [some (.ref x0), some (.int x1), some (.int x2), some (.int x3), some (.int y1), none, none] [] U (some (.int r.1), r.2)) (r : (Int32 × pm_S)) (h : F_Plan_isWantedByOther_72 N rec3 x0 x1 x2 x3 x4 S = some r) : pmE pG (pm_rel pG sp (d + 1)) mi_Plan_isWantedByOther 72 [some (.ref x0), some (.int x1), some (.int x2), some (.int x3), some (.int x4), none, none] [] S (some (.int r.1), r.2) := by
  unfold F_Plan_isWantedByOther_72 at h
  refine pE_jump 2 (pc' := 3) (ls' := [some (.ref x0), some (.int x1), some (.int x2), some (.int x3), some (.int (x4 + 1)), none, none]) (st' := []) (fun _ => rfl) ?_
  exact hrec3 (x4 + 1) S _ h
def F_Plan_isWantedByOther_70 (N : Nat)   (S : pm_S) : Option (Int32 × pm_S) :=
    some (1, S)
set_option maxHeartbeats 4000000 in
set_option maxRecDepth 20000 in
theorem f_Plan_isWantedByOther_70 (sp : pm_I → List Value → pm_S → pm_O → Prop) (d N : Nat)   (S : pm_S)  (r : (Int32 × pm_S)) (h : F_Plan_isWantedByOther_70 N   S = some r) : pmE pG (pm_rel pG sp (d + 1)) mi_Plan_isWantedByOther 70 [none, none, none, none, none, none, none] [] S (some (.int r.1), r.2) := by
  unfold F_Plan_isWantedByOther_70 at h
  refine pE_jump 1 (pc' := 71) (ls' := [none, none, none, none, none, none, none]) (st' := [.int 1]) (fun _ => rfl) ?_
  cases h
  exact pE_ret rfl rfl rfl
def F_Plan_isWantedByOther_44 (N : Nat) (rec3 : Int32 → pm_S → Option (Int32 × pm_S)) (x0 : Nat) (x1 : Int32) (x2 : Int32) (x3 : Int32) (x4 : Int32) (t0 : Int32) (S : pm_S) : Option (Int32 × pm_S) :=
    if x4 = x3 then
    F_Plan_isWantedByOther_72 N rec3 x0 x1 x2 x3 x4 S
    else
    (if t0 = 0 then
    F_Plan_isWantedByOther_72 N rec3 x0 x1 x2 x3 x4 S
    else
    ((oR S x0 4 10).bind fun oq5 => match oq5 with
    | none => none
    | some q5 =>
    (F_BP_valueAt N S q5 x4).bind fun (v7, S6) =>
    if v7 = x2 then
    F_Plan_isWantedByOther_70 N S6
    else
    F_Plan_isWantedByOther_72 N rec3 x0 x1 x2 x3 x4 S6))
set_option maxHeartbeats 4000000 in
set_option maxRecDepth 20000 in
theorem f_Plan_isWantedByOther_44 (sp : pm_I → List Value → pm_S → pm_O → Prop) (d N : Nat) (rec3 : Int32 → pm_S → Option (Int32 × pm_S)) (x0 : Nat) (x1 : Int32) (x2 : Int32) (x3 : Int32) (x4 : Int32) (t0 : Int32) (S : pm_S) (hrec3 : ∀ (y1 : Int32) (U : pm_S) (r : (Int32 × pm_S)), rec3 y1 U = some r → pmE pG (pm_rel pG sp (d + 1)) mi_Plan_isWantedByOther 3 [some (.ref x0), some (.int x1), some (.int x2), some (.int x3), some (.int y1), none, none] [] U (some (.int r.1), r.2)) (r : (Int32 × pm_S)) (h : F_Plan_isWantedByOther_44 N rec3 x0 x1 x2 x3 x4 t0 S = some r) : pmE pG (pm_rel pG sp (d + 1)) mi_Plan_isWantedByOther 44 [some (.ref x0), some (.int x1), some (.int x2), some (.int x3), some (.int x4), none, none] [.int t0] S (some (.int r.1), r.2) := by
  unfold F_Plan_isWantedByOther_44 at h
  refine pE_jump 3 (pc' := 49) (ls' := [some (.ref x0), some (.int x1), some (.int x2), some (.int x3), some (.int x4), none, some (.int t0)]) (st' := [.int x3, .int x4]) (fun _ => rfl) ?_
  refine pE_br (x4 = x3) rfl rfl (fun c10 => ?_) (fun c10 => ?_)
  · rw [if_pos c10] at h
    refine pE_weak [some (.ref x0), some (.int x1), some (.int x2), some (.int x3), some (.int x4), none, none] ⟨rfl, ⟨rfl, ⟨rfl, ⟨rfl, ⟨rfl, trivial⟩⟩⟩⟩⟩ ?_
    exact f_Plan_isWantedByOther_72 sp d N rec3 x0 x1 x2 x3 x4 S hrec3 _ h
  · rw [if_neg c10] at h
    refine pE_jump 1 (pc' := 54) (ls' := [some (.ref x0), some (.int x1), some (.int x2), some (.int x3), some (.int x4), none, some (.int t0)]) (st' := [.int t0]) (fun _ => rfl) ?_
    refine pE_br (t0 = 0) rfl rfl (fun c9 => ?_) (fun c9 => ?_)
    · rw [if_pos c9] at h
      refine pE_weak [some (.ref x0), some (.int x1), some (.int x2), some (.int x3), some (.int x4), none, none] ⟨rfl, ⟨rfl, ⟨rfl, ⟨rfl, ⟨rfl, trivial⟩⟩⟩⟩⟩ ?_
      exact f_Plan_isWantedByOther_72 sp d N rec3 x0 x1 x2 x3 x4 S hrec3 _ h
    · rw [if_neg c9] at h
      refine pE_jump 1 (pc' := 58) (ls' := [some (.ref x0), some (.int x1), some (.int x2), some (.int x3), some (.int x4), none, some (.int t0)]) (st' := [.ref x0]) (fun _ => rfl) ?_
      obtain ⟨oq5, hq5, h⟩ := obind h
      cases oq5 with
      | none => cases h
      | some q5 =>
        try dsimp only at h
        refine pE_gfS rfl rfl hq5 ?_
        refine pE_jump 1 (pc' := 63) (ls' := [some (.ref x0), some (.int x1), some (.int x2), some (.int x3), some (.int x4), none, some (.int t0)]) (st' := [.int x4, .ref q5]) (fun _ => rfl) ?_
        obtain ⟨⟨v7, S6⟩, hv7, h⟩ := obind h
        try dsimp only at h
        refine pE_is (Bs := [.ref q5, .int x4]) (st := []) rfl rfl rfl (Nat.le_of_ble_eq_true rfl) (Nat.le_of_ble_eq_true rfl) (f_BP_valueAt sp d N S q5 x4 _ hv7) ?_
        refine pE_jump 1 (pc' := 67) (ls' := [some (.ref x0), some (.int x1), some (.int x2), some (.int x3), some (.int x4), none, some (.int t0)]) (st' := [.int x2, .int v7]) (fun _ => rfl) ?_
        refine pE_br (¬ v7 = x2) rfl rfl (fun c8 => ?_) (fun c8 => ?_)
        · rw [if_neg c8] at h
          refine pE_weak [some (.ref x0), some (.int x1), some (.int x2), some (.int x3), some (.int x4), none, none] ⟨rfl, ⟨rfl, ⟨rfl, ⟨rfl, ⟨rfl, trivial⟩⟩⟩⟩⟩ ?_
          exact f_Plan_isWantedByOther_72 sp d N rec3 x0 x1 x2 x3 x4 S6 hrec3 _ h
        · have c8 := Decidable.not_not.mp c8
          rw [if_pos c8] at h
          refine pE_weak [none, none, none, none, none, none, none] trivial ?_
          exact f_Plan_isWantedByOther_70 sp d N S6 _ h
def F_Plan_isWantedByOther_43 (N : Nat) (rec3 : Int32 → pm_S → Option (Int32 × pm_S)) (x0 : Nat) (x1 : Int32) (x2 : Int32) (x3 : Int32) (x4 : Int32) (S : pm_S) : Option (Int32 × pm_S) :=
    F_Plan_isWantedByOther_44 N rec3 x0 x1 x2 x3 x4 0 S
set_option maxHeartbeats 4000000 in
set_option maxRecDepth 20000 in
theorem f_Plan_isWantedByOther_43 (sp : pm_I → List Value → pm_S → pm_O → Prop) (d N : Nat) (rec3 : Int32 → pm_S → Option (Int32 × pm_S)) (x0 : Nat) (x1 : Int32) (x2 : Int32) (x3 : Int32) (x4 : Int32) (S : pm_S) (hrec3 : ∀ (y1 : Int32) (U : pm_S) (r : (Int32 × pm_S)), rec3 y1 U = some r → pmE pG (pm_rel pG sp (d + 1)) mi_Plan_isWantedByOther 3 [some (.ref x0), some (.int x1), some (.int x2), some (.int x3), some (.int y1), none, none] [] U (some (.int r.1), r.2)) (r : (Int32 × pm_S)) (h : F_Plan_isWantedByOther_43 N rec3 x0 x1 x2 x3 x4 S = some r) : pmE pG (pm_rel pG sp (d + 1)) mi_Plan_isWantedByOther 43 [some (.ref x0), some (.int x1), some (.int x2), some (.int x3), some (.int x4), none, none] [] S (some (.int r.1), r.2) := by
  unfold F_Plan_isWantedByOther_43 at h
  refine pE_jump 1 (pc' := 44) (ls' := [some (.ref x0), some (.int x1), some (.int x2), some (.int x3), some (.int x4), none, none]) (st' := [.int 0]) (fun _ => rfl) ?_
  exact f_Plan_isWantedByOther_44 sp d N rec3 x0 x1 x2 x3 x4 0 S hrec3 _ h
def B_Plan_isWantedByOther_3 (N : Nat)  (rec3 : Int32 → pm_S → Option (Int32 × pm_S)) (x0 : Nat) (x1 : Int32) (x2 : Int32) (x3 : Int32) (x4 : Int32) (S : pm_S) : Option (Int32 × pm_S) :=
    if 10 ≤ x4 then
    F_Plan_isWantedByOther_78 N S
    else
    ((oR S x0 4 5).bind fun oq1 => match oq1 with
    | none => none
    | some q1 =>
    (oR S q1 1 3).bind fun oq2 => match oq2 with
    | none => none
    | some q2 =>
    (F_BP_valueAt N S q2 x4).bind fun (v4, S3) =>
    if v4 = (-1) then
    F_Plan_isWantedByOther_43 N rec3 x0 x1 x2 x3 x4 S3
    else
    ((F_BP_cableOf N S3 v4).bind fun (v12, S11) =>
    if v12 = x1 then
    F_Plan_isWantedByOther_44 N rec3 x0 x1 x2 x3 x4 1 S11
    else
    F_Plan_isWantedByOther_43 N rec3 x0 x1 x2 x3 x4 S11))
def F_Plan_isWantedByOther_3 (N : Nat)  (x0 : Nat) (x1 : Int32) (x2 : Int32) (x3 : Int32) : Nat → Int32 → pm_S → Option (Int32 × pm_S)
  | 0 => fun _ _ => none
  | n + 1 => fun x4 S => B_Plan_isWantedByOther_3 N  (F_Plan_isWantedByOther_3 N  x0 x1 x2 x3 n) x0 x1 x2 x3 x4 S
set_option maxHeartbeats 4000000 in
set_option maxRecDepth 20000 in
theorem f_Plan_isWantedByOther_3 (sp : pm_I → List Value → pm_S → pm_O → Prop) (d N : Nat)  (x0 : Nat) (x1 : Int32) (x2 : Int32) (x3 : Int32)  : ∀ (n : Nat) (x4 : Int32) (S : pm_S) (r : (Int32 × pm_S)), F_Plan_isWantedByOther_3 N  x0 x1 x2 x3 n x4 S = some r → pmE pG (pm_rel pG sp (d + 1)) mi_Plan_isWantedByOther 3 [some (.ref x0), some (.int x1), some (.int x2), some (.int x3), some (.int x4), none, none] [] S (some (.int r.1), r.2) := by
  intro n
  induction n with
  | zero =>
    intro x4 S r h
    cases h
  | succ n ih =>
    intro x4 S r h
    replace h : B_Plan_isWantedByOther_3 N  (F_Plan_isWantedByOther_3 N  x0 x1 x2 x3 n) x0 x1 x2 x3 x4 S = some r := h
    have hrec3 := ih
    generalize F_Plan_isWantedByOther_3 N  x0 x1 x2 x3 n = rec3 at h hrec3
    unfold B_Plan_isWantedByOther_3 at h
    refine pE_jump 2 (pc' := 7) (ls' := [some (.ref x0), some (.int x1), some (.int x2), some (.int x3), some (.int x4), none, none]) (st' := [.int 10, .int x4]) (fun _ => rfl) ?_
    refine pE_br (10 ≤ x4) rfl rfl (fun c15 => ?_) (fun c15 => ?_)
    · rw [if_pos c15] at h
      refine pE_weak [none, none, none, none, none, none, none] trivial ?_
      exact f_Plan_isWantedByOther_78 sp d N S _ h
    · rw [if_neg c15] at h
      refine pE_jump 1 (pc' := 11) (ls' := [some (.ref x0), some (.int x1), some (.int x2), some (.int x3), some (.int x4), none, none]) (st' := [.ref x0]) (fun _ => rfl) ?_
      obtain ⟨oq1, hq1, h⟩ := obind h
      cases oq1 with
      | none => cases h
      | some q1 =>
        try dsimp only at h
        refine pE_gfS rfl rfl hq1 ?_
        obtain ⟨oq2, hq2, h⟩ := obind h
        cases oq2 with
        | none => cases h
        | some q2 =>
          try dsimp only at h
          refine pE_gfS rfl rfl hq2 ?_
          refine pE_jump 1 (pc' := 19) (ls' := [some (.ref x0), some (.int x1), some (.int x2), some (.int x3), some (.int x4), none, none]) (st' := [.int x4, .ref q2]) (fun _ => rfl) ?_
          obtain ⟨⟨v4, S3⟩, hv4, h⟩ := obind h
          try dsimp only at h
          refine pE_is (Bs := [.ref q2, .int x4]) (st := []) rfl rfl rfl (Nat.le_of_ble_eq_true rfl) (Nat.le_of_ble_eq_true rfl) (f_BP_valueAt sp d N S q2 x4 _ hv4) ?_
          refine pE_jump 3 (pc' := 27) (ls' := [some (.ref x0), some (.int x1), some (.int x2), some (.int x3), some (.int x4), some (.int v4), none]) (st' := [.int (-1), .int v4]) (fun _ => rfl) ?_
          refine pE_br (v4 = (-1)) rfl rfl (fun c14 => ?_) (fun c14 => ?_)
          · rw [if_pos c14] at h
            refine pE_weak [some (.ref x0), some (.int x1), some (.int x2), some (.int x3), some (.int x4), none, none] ⟨rfl, ⟨rfl, ⟨rfl, ⟨rfl, ⟨rfl, trivial⟩⟩⟩⟩⟩ ?_
            exact f_Plan_isWantedByOther_43 sp d N rec3 x0 x1 x2 x3 x4 S3 hrec3 _ h
          · rw [if_neg c14] at h
            refine pE_jump 1 (pc' := 32) (ls' := [some (.ref x0), some (.int x1), some (.int x2), some (.int x3), some (.int x4), some (.int v4), none]) (st' := [.int v4]) (fun _ => rfl) ?_
            obtain ⟨⟨v12, S11⟩, hv12, h⟩ := obind h
            try dsimp only at h
            refine pE_is (Bs := [.int v4]) (st := []) rfl rfl rfl (Nat.le_of_ble_eq_true rfl) (Nat.le_of_ble_eq_true rfl) (f_BP_cableOf sp d N S3 v4 _ hv12) ?_
            refine pE_jump 1 (pc' := 36) (ls' := [some (.ref x0), some (.int x1), some (.int x2), some (.int x3), some (.int x4), some (.int v4), none]) (st' := [.int x1, .int v12]) (fun _ => rfl) ?_
            refine pE_br (¬ v12 = x1) rfl rfl (fun c13 => ?_) (fun c13 => ?_)
            · rw [if_neg c13] at h
              refine pE_weak [some (.ref x0), some (.int x1), some (.int x2), some (.int x3), some (.int x4), none, none] ⟨rfl, ⟨rfl, ⟨rfl, ⟨rfl, ⟨rfl, trivial⟩⟩⟩⟩⟩ ?_
              exact f_Plan_isWantedByOther_43 sp d N rec3 x0 x1 x2 x3 x4 S11 hrec3 _ h
            · have c13 := Decidable.not_not.mp c13
              rw [if_pos c13] at h
              refine pE_jump 2 (pc' := 44) (ls' := [some (.ref x0), some (.int x1), some (.int x2), some (.int x3), some (.int x4), some (.int v4), none]) (st' := [.int 1]) (fun _ => rfl) ?_
              refine pE_weak [some (.ref x0), some (.int x1), some (.int x2), some (.int x3), some (.int x4), none, none] ⟨rfl, ⟨rfl, ⟨rfl, ⟨rfl, ⟨rfl, trivial⟩⟩⟩⟩⟩ ?_
              exact f_Plan_isWantedByOther_44 sp d N rec3 x0 x1 x2 x3 x4 1 S11 hrec3 _ h
def F_Plan_isWantedByOther (N : Nat) (S : pm_S) (a : Nat) (p0 : Int32) (p1 : Int32) (p2 : Int32) : Option (Int32 × pm_S) :=
    if rcv S a 4 = true then
    (F_Plan_isWantedByOther_3 N a p0 p1 p2 N 0 S)
    else none
theorem g_Plan_isWantedByOther {N : Nat} {S : pm_S} {a : Nat} {p0 : Int32} {p1 : Int32} {p2 : Int32} {r : (Int32 × pm_S)} (h : F_Plan_isWantedByOther N S a p0 p1 p2 = some r) : rcv S a 4 = true := by
  unfold F_Plan_isWantedByOther at h
  by_cases c : rcv S a 4 = true
  · exact c
  · rw [if_neg c] at h; cases h
set_option maxHeartbeats 4000000 in
set_option maxRecDepth 20000 in
theorem f_Plan_isWantedByOther (sp : pm_I → List Value → pm_S → pm_O → Prop) (d N : Nat) (S : pm_S) (a : Nat) (p0 : Int32) (p1 : Int32) (p2 : Int32) (r : (Int32 × pm_S)) (h : F_Plan_isWantedByOther N S a p0 p1 p2 = some r) : pm_rel pG sp (d + 2) mi_Plan_isWantedByOther [.ref a, .int p0, .int p1, .int p2] S (some (.int r.1), r.2) := by
  have hg := g_Plan_isWantedByOther h
  unfold F_Plan_isWantedByOther at h
  rw [if_pos hg] at h
  refine pE_rel (d := d + 1) ?_
  show pmE pG _ mi_Plan_isWantedByOther 0 [some (.ref a), some (.int p0), some (.int p1), some (.int p2), none, none, none] [] S _
  refine pE_jump 2 (pc' := 3) (ls' := [some (.ref a), some (.int p0), some (.int p1), some (.int p2), some (.int 0), none, none]) (st' := []) (fun _ => rfl) ?_
  exact f_Plan_isWantedByOther_3 sp d N a p0 p1 p2 N 0 S _ h
def F_Plan_setWanted_53 (N : Nat)  (x0 : Nat) (x1 : Int32) (x2 : Int32) (S : pm_S) : Option (Int32 × pm_S) :=
    (oR S x0 4 10).bind fun oq7 => match oq7 with
    | none => none
    | some q7 =>
    (F_BP_setAt N S q7 x1 x2).bind fun S8 =>
    some (1, S8)
set_option maxHeartbeats 4000000 in
set_option maxRecDepth 20000 in
theorem f_Plan_setWanted_53 (sp : pm_I → List Value → pm_S → pm_O → Prop) (d N : Nat)  (x0 : Nat) (x1 : Int32) (x2 : Int32) (S : pm_S)  (r : (Int32 × pm_S)) (h : F_Plan_setWanted_53 N  x0 x1 x2 S = some r) : pmE pG (pm_rel pG sp (d + 3)) mi_Plan_setWanted 53 [some (.ref x0), some (.int x1), some (.int x2), none, none] [] S (some (.int r.1), r.2) := by
  unfold F_Plan_setWanted_53 at h
  refine pE_jump 1 (pc' := 54) (ls' := [some (.ref x0), some (.int x1), some (.int x2), none, none]) (st' := [.ref x0]) (fun _ => rfl) ?_
  obtain ⟨oq7, hq7, h⟩ := obind h
  cases oq7 with
  | none => cases h
  | some q7 =>
    try dsimp only at h
    refine pE_gfS rfl rfl hq7 ?_
    refine pE_jump 2 (pc' := 59) (ls' := [some (.ref x0), some (.int x1), some (.int x2), none, none]) (st' := [.int x2, .int x1, .ref q7]) (fun _ => rfl) ?_
    obtain ⟨S8, hS8, h⟩ := obind h
    refine pE_is (Bs := [.ref q7, .int x1, .int x2]) (st := []) rfl rfl rfl (Nat.le_of_ble_eq_true rfl) (Nat.le_of_ble_eq_true rfl) (f_BP_setAt sp (d + 2) N S q7 x1 x2 _ hS8) ?_
    refine pE_jump 1 (pc' := 63) (ls' := [some (.ref x0), some (.int x1), some (.int x2), none, none]) (st' := [.int 1]) (fun _ => rfl) ?_
    cases h
    exact pE_ret rfl rfl rfl
def F_Plan_setWanted_51 (N : Nat)   (S : pm_S) : Option (Int32 × pm_S) :=
    some (0, S)
set_option maxHeartbeats 4000000 in
set_option maxRecDepth 20000 in
theorem f_Plan_setWanted_51 (sp : pm_I → List Value → pm_S → pm_O → Prop) (d N : Nat)   (S : pm_S)  (r : (Int32 × pm_S)) (h : F_Plan_setWanted_51 N   S = some r) : pmE pG (pm_rel pG sp (d + 3)) mi_Plan_setWanted 51 [none, none, none, none, none] [] S (some (.int r.1), r.2) := by
  unfold F_Plan_setWanted_51 at h
  refine pE_jump 1 (pc' := 52) (ls' := [none, none, none, none, none]) (st' := [.int 0]) (fun _ => rfl) ?_
  cases h
  exact pE_ret rfl rfl rfl
def F_Plan_setWanted (N : Nat) (S : pm_S) (a : Nat) (p0 : Int32) (p1 : Int32) : Option (Int32 × pm_S) :=
    if rcv S a 4 = true then
    ((oR S a 4 5).bind fun oq1 => match oq1 with
    | none => none
    | some q1 =>
    (oR S q1 1 3).bind fun oq2 => match oq2 with
    | none => none
    | some q2 =>
    (F_BP_valueAt N S q2 p0).bind fun (v4, S3) =>
    if v4 = (-1) then
    some (0, S3)
    else
    ((F_BP_cableOf N S3 v4).bind fun (v6, S5) =>
    if p1 = (-1) then
    F_Plan_setWanted_53 N a p0 p1 S5
    else
    ((F_Plan_hasPair N S5 a v6 p1).bind fun (v10, S9) =>
    if v10 = 0 then
    F_Plan_setWanted_51 N S9
    else
    ((F_Plan_isWantedByOther N S9 a v6 p1 p0).bind fun (v12, S11) =>
    if v12 = 0 then
    F_Plan_setWanted_53 N a p0 p1 S11
    else
    F_Plan_setWanted_51 N S11))))
    else none
theorem g_Plan_setWanted {N : Nat} {S : pm_S} {a : Nat} {p0 : Int32} {p1 : Int32} {r : (Int32 × pm_S)} (h : F_Plan_setWanted N S a p0 p1 = some r) : rcv S a 4 = true := by
  unfold F_Plan_setWanted at h
  by_cases c : rcv S a 4 = true
  · exact c
  · rw [if_neg c] at h; cases h
set_option maxHeartbeats 4000000 in
set_option maxRecDepth 20000 in
theorem f_Plan_setWanted (sp : pm_I → List Value → pm_S → pm_O → Prop) (d N : Nat) (S : pm_S) (a : Nat) (p0 : Int32) (p1 : Int32) (r : (Int32 × pm_S)) (h : F_Plan_setWanted N S a p0 p1 = some r) : pm_rel pG sp (d + 4) mi_Plan_setWanted [.ref a, .int p0, .int p1] S (some (.int r.1), r.2) := by
  have hg := g_Plan_setWanted h
  unfold F_Plan_setWanted at h
  rw [if_pos hg] at h
  refine pE_rel (d := d + 3) ?_
  show pmE pG _ mi_Plan_setWanted 0 [some (.ref a), some (.int p0), some (.int p1), none, none] [] S _
  refine pE_jump 1 (pc' := 1) (ls' := [some (.ref a), some (.int p0), some (.int p1), none, none]) (st' := [.ref a]) (fun _ => rfl) ?_
  obtain ⟨oq1, hq1, h⟩ := obind h
  cases oq1 with
  | none => cases h
  | some q1 =>
    try dsimp only at h
    refine pE_gfS rfl rfl hq1 ?_
    obtain ⟨oq2, hq2, h⟩ := obind h
    cases oq2 with
    | none => cases h
    | some q2 =>
      try dsimp only at h
      refine pE_gfS rfl rfl hq2 ?_
      refine pE_jump 1 (pc' := 8) (ls' := [some (.ref a), some (.int p0), some (.int p1), none, none]) (st' := [.int p0, .ref q2]) (fun _ => rfl) ?_
      obtain ⟨⟨v4, S3⟩, hv4, h⟩ := obind h
      try dsimp only at h
      refine pE_is (Bs := [.ref q2, .int p0]) (st := []) rfl rfl rfl (Nat.le_of_ble_eq_true rfl) (Nat.le_of_ble_eq_true rfl) (f_BP_valueAt sp (d + 2) N S q2 p0 _ hv4) ?_
      refine pE_jump 3 (pc' := 14) (ls' := [some (.ref a), some (.int p0), some (.int p1), some (.int v4), none]) (st' := [.int (-1), .int v4]) (fun _ => rfl) ?_
      refine pE_br (¬ v4 = (-1)) rfl rfl (fun c16 => ?_) (fun c16 => ?_)
      · rw [if_neg c16] at h
        refine pE_jump 1 (pc' := 20) (ls' := [some (.ref a), some (.int p0), some (.int p1), some (.int v4), none]) (st' := [.int v4]) (fun _ => rfl) ?_
        obtain ⟨⟨v6, S5⟩, hv6, h⟩ := obind h
        try dsimp only at h
        refine pE_is (Bs := [.int v4]) (st := []) rfl rfl rfl (Nat.le_of_ble_eq_true rfl) (Nat.le_of_ble_eq_true rfl) (f_BP_cableOf sp (d + 2) N S3 v4 _ hv6) ?_
        refine pE_jump 3 (pc' := 27) (ls' := [some (.ref a), some (.int p0), some (.int p1), some (.int v4), some (.int v6)]) (st' := [.int (-1), .int p1]) (fun _ => rfl) ?_
        refine pE_br (p1 = (-1)) rfl rfl (fun c15 => ?_) (fun c15 => ?_)
        · rw [if_pos c15] at h
          refine pE_weak [some (.ref a), some (.int p0), some (.int p1), none, none] ⟨rfl, ⟨rfl, ⟨rfl, trivial⟩⟩⟩ ?_
          exact f_Plan_setWanted_53 sp d N a p0 p1 S5 _ h
        · rw [if_neg c15] at h
          refine pE_jump 3 (pc' := 34) (ls' := [some (.ref a), some (.int p0), some (.int p1), some (.int v4), some (.int v6)]) (st' := [.int p1, .int v6, .ref a]) (fun _ => rfl) ?_
          obtain ⟨⟨v10, S9⟩, hv10, h⟩ := obind h
          try dsimp only at h
          refine pE_iv (Bs := [.int v6, .int p1]) (st := []) 1 rfl (Or.inl ⟨rfl, rfl⟩) rfl rfl (Nat.le_of_ble_eq_true rfl) (Nat.le_of_ble_eq_true rfl) (g_Plan_hasPair hv10) (f_Plan_hasPair sp d N S5 a v6 p1 _ hv10) ?_
          refine pE_br (v10 = 0) rfl rfl (fun c14 => ?_) (fun c14 => ?_)
          · rw [if_pos c14] at h
            refine pE_weak [none, none, none, none, none] trivial ?_
            exact f_Plan_setWanted_51 sp d N S9 _ h
          · rw [if_neg c14] at h
            refine pE_jump 4 (pc' := 45) (ls' := [some (.ref a), some (.int p0), some (.int p1), some (.int v4), some (.int v6)]) (st' := [.int p0, .int p1, .int v6, .ref a]) (fun _ => rfl) ?_
            obtain ⟨⟨v12, S11⟩, hv12, h⟩ := obind h
            try dsimp only at h
            refine pE_iv (Bs := [.int v6, .int p1, .int p0]) (st := []) 1 rfl (Or.inl ⟨rfl, rfl⟩) rfl rfl (Nat.le_of_ble_eq_true rfl) (Nat.le_of_ble_eq_true rfl) (g_Plan_isWantedByOther hv12) (f_Plan_isWantedByOther sp (d + 1) N S9 a v6 p1 p0 _ hv12) ?_
            refine pE_br (v12 = 0) rfl rfl (fun c13 => ?_) (fun c13 => ?_)
            · rw [if_pos c13] at h
              refine pE_weak [some (.ref a), some (.int p0), some (.int p1), none, none] ⟨rfl, ⟨rfl, ⟨rfl, trivial⟩⟩⟩ ?_
              exact f_Plan_setWanted_53 sp d N a p0 p1 S11 _ h
            · rw [if_neg c13] at h
              refine pE_weak [none, none, none, none, none] trivial ?_
              exact f_Plan_setWanted_51 sp d N S11 _ h
      · have c16 := Decidable.not_not.mp c16
        rw [if_pos c16] at h
        refine pE_jump 1 (pc' := 18) (ls' := [some (.ref a), some (.int p0), some (.int p1), some (.int v4), none]) (st' := [.int 0]) (fun _ => rfl) ?_
        cases h
        exact pE_ret rfl rfl rfl
def F_BP_want_27 (N : Nat)  (t0 : Int32) (S : pm_S) : Option (Int32 × pm_S) :=
    if t0 = 0 ∨ t0 = 1 then some (t0, S) else none
set_option maxHeartbeats 4000000 in
set_option maxRecDepth 20000 in
theorem f_BP_want_27 (sp : pm_I → List Value → pm_S → pm_O → Prop) (d N : Nat)  (t0 : Int32) (S : pm_S)  (r : (Int32 × pm_S)) (h : F_BP_want_27 N  t0 S = some r) : pmE pG (pm_rel pG sp (d + 4)) mi_BP_want 27 [none, none, none, none, none] [.int t0] S (some (.int r.1), r.2) := by
  unfold F_BP_want_27 at h
  by_cases c3 : t0 = 0 ∨ t0 = 1
  · rw [if_pos c3] at h
    cases h
    exact pE_ret rfl (if_pos c3) rfl
  · rw [if_neg c3] at h
    cases h
def F_BP_want_26 (N : Nat)   (S : pm_S) : Option (Int32 × pm_S) :=
    F_BP_want_27 N 0 S
set_option maxHeartbeats 4000000 in
set_option maxRecDepth 20000 in
theorem f_BP_want_26 (sp : pm_I → List Value → pm_S → pm_O → Prop) (d N : Nat)   (S : pm_S)  (r : (Int32 × pm_S)) (h : F_BP_want_26 N   S = some r) : pmE pG (pm_rel pG sp (d + 4)) mi_BP_want 26 [none, none, none, none, none] [] S (some (.int r.1), r.2) := by
  unfold F_BP_want_26 at h
  refine pE_jump 1 (pc' := 27) (ls' := [none, none, none, none, none]) (st' := [.int 0]) (fun _ => rfl) ?_
  exact f_BP_want_27 sp d N 0 S _ h
def F_BP_want (N : Nat) (S : pm_S) (a : Nat) (p0 : Int32) (p1 : Int32) (p2 : Int32) : Option (Int32 × pm_S) :=
    if rcv S a 10 = true then
    ((F_BP_planAt N S a p0).bind fun (oq2, S1) => match oq2 with
    | none => F_BP_want_26 N S1
    | some q2 =>
    (F_Plan_setWanted N S1 q2 p1 p2).bind fun (v5, S4) =>
    if v5 = 0 then
    F_BP_want_26 N S4
    else
    F_BP_want_27 N 1 S4)
    else none
theorem g_BP_want {N : Nat} {S : pm_S} {a : Nat} {p0 : Int32} {p1 : Int32} {p2 : Int32} {r : (Int32 × pm_S)} (h : F_BP_want N S a p0 p1 p2 = some r) : rcv S a 10 = true := by
  unfold F_BP_want at h
  by_cases c : rcv S a 10 = true
  · exact c
  · rw [if_neg c] at h; cases h
set_option maxHeartbeats 4000000 in
set_option maxRecDepth 20000 in
theorem f_BP_want (sp : pm_I → List Value → pm_S → pm_O → Prop) (d N : Nat) (S : pm_S) (a : Nat) (p0 : Int32) (p1 : Int32) (p2 : Int32) (r : (Int32 × pm_S)) (h : F_BP_want N S a p0 p1 p2 = some r) : pm_rel pG sp (d + 5) mi_BP_want [.ref a, .int p0, .int p1, .int p2] S (some (.int r.1), r.2) := by
  have hg := g_BP_want h
  unfold F_BP_want at h
  rw [if_pos hg] at h
  refine pE_rel (d := d + 4) ?_
  show pmE pG _ mi_BP_want 0 [some (.ref a), some (.int p0), some (.int p1), some (.int p2), none] [] S _
  refine pE_jump 2 (pc' := 2) (ls' := [some (.ref a), some (.int p0), some (.int p1), some (.int p2), none]) (st' := [.int p0, .ref a]) (fun _ => rfl) ?_
  obtain ⟨⟨oq2, S1⟩, hq2, h⟩ := obind h
  try dsimp only at h
  cases oq2 with
  | none =>
    try dsimp only at h
    refine pE_iv (Bs := [.int p0]) (st := []) 1 rfl (Or.inl ⟨rfl, rfl⟩) rfl rfl (Nat.le_of_ble_eq_true rfl) (Nat.le_of_ble_eq_true rfl) (g_BP_planAt hq2) (f_BP_planAt sp (d + 3) N S a p0 _ hq2) ?_
    refine pE_jump 3 (pc' := 26) (ls' := [some (.ref a), some (.int p0), some (.int p1), some (.int p2), some (.null)]) (st' := []) (fun _ => rfl) ?_
    refine pE_weak [none, none, none, none, none] trivial ?_
    exact f_BP_want_26 sp d N S1 _ h
  | some q2 =>
    try dsimp only at h
    refine pE_iv (Bs := [.int p0]) (st := []) 1 rfl (Or.inl ⟨rfl, rfl⟩) rfl rfl (Nat.le_of_ble_eq_true rfl) (Nat.le_of_ble_eq_true rfl) (g_BP_planAt hq2) (f_BP_planAt sp (d + 3) N S a p0 _ hq2) ?_
    refine pE_jump 6 (pc' := 16) (ls' := [some (.ref a), some (.int p0), some (.int p1), some (.int p2), some (.ref q2)]) (st' := [.int p2, .int p1, .ref q2]) (fun _ => rfl) ?_
    obtain ⟨⟨v5, S4⟩, hv5, h⟩ := obind h
    try dsimp only at h
    refine pE_iv (Bs := [.int p1, .int p2]) (st := []) 1 rfl (Or.inl ⟨rfl, rfl⟩) rfl rfl (Nat.le_of_ble_eq_true rfl) (Nat.le_of_ble_eq_true rfl) (g_Plan_setWanted hv5) (f_Plan_setWanted sp d N S1 q2 p1 p2 _ hv5) ?_
    refine pE_br (v5 = 0) rfl rfl (fun c6 => ?_) (fun c6 => ?_)
    · rw [if_pos c6] at h
      refine pE_weak [none, none, none, none, none] trivial ?_
      exact f_BP_want_26 sp d N S4 _ h
    · rw [if_neg c6] at h
      refine pE_jump 2 (pc' := 27) (ls' := [some (.ref a), some (.int p0), some (.int p1), some (.int p2), some (.ref q2)]) (st' := [.int 1]) (fun _ => rfl) ?_
      refine pE_weak [none, none, none, none, none] trivial ?_
      exact f_BP_want_27 sp d N 1 S4 _ h
def F_Mover_freePairs_41 (N : Nat)  (x1 : Int32) (S : pm_S) : Option (Int32 × pm_S) :=
    some (x1, S)
set_option maxHeartbeats 4000000 in
set_option maxRecDepth 20000 in
theorem f_Mover_freePairs_41 (sp : pm_I → List Value → pm_S → pm_O → Prop) (d N : Nat)  (x1 : Int32) (S : pm_S)  (r : (Int32 × pm_S)) (h : F_Mover_freePairs_41 N  x1 S = some r) : pmE pG (pm_rel pG sp (d + 1)) mi_Mover_freePairs 41 [none, some (.int x1), none, none] [] S (some (.int r.1), r.2) := by
  unfold F_Mover_freePairs_41 at h
  refine pE_jump 1 (pc' := 42) (ls' := [none, some (.int x1), none, none]) (st' := [.int x1]) (fun _ => rfl) ?_
  cases h
  exact pE_ret rfl rfl rfl
def F_Mover_freePairs_35 (N : Nat) (rec7 : Int32 → Int32 → pm_S → Option (Int32 × pm_S)) (x0 : Nat) (x1 : Int32) (x2 : Int32) (S : pm_S) : Option (Int32 × pm_S) :=
    rec7 x1 (x2 + 1) S
set_option maxHeartbeats 4000000 in
set_option maxRecDepth 20000 in
theorem f_Mover_freePairs_35 (sp : pm_I → List Value → pm_S → pm_O → Prop) (d N : Nat) (rec7 : Int32 → Int32 → pm_S → Option (Int32 × pm_S)) (x0 : Nat) (x1 : Int32) (x2 : Int32) (S : pm_S) (hrec7 : ∀ (y1 : Int32) (y2 : Int32) (U : pm_S) (r : (Int32 × pm_S)), rec7 y1 y2 U = some r → pmE pG (pm_rel pG sp (d + 1)) mi_Mover_freePairs 7 [some (.ref x0), some (.int y1), some (.int y2), none] [] U (some (.int r.1), r.2)) (r : (Int32 × pm_S)) (h : F_Mover_freePairs_35 N rec7 x0 x1 x2 S = some r) : pmE pG (pm_rel pG sp (d + 1)) mi_Mover_freePairs 35 [some (.ref x0), some (.int x1), some (.int x2), none] [] S (some (.int r.1), r.2) := by
  unfold F_Mover_freePairs_35 at h
  refine pE_jump 2 (pc' := 7) (ls' := [some (.ref x0), some (.int x1), some (.int (x2 + 1)), none]) (st' := []) (fun _ => rfl) ?_
  exact hrec7 x1 (x2 + 1) S _ h
def B_Mover_freePairs_7 (N : Nat)  (rec7 : Int32 → Int32 → pm_S → Option (Int32 × pm_S)) (x0 : Nat) (x1 : Int32) (x2 : Int32) (S : pm_S) : Option (Int32 × pm_S) :=
    if 10 ≤ x2 then
    F_Mover_freePairs_41 N x1 S
    else
    ((oR S x0 3 0).bind fun oq2 => match oq2 with
    | none => none
    | some q2 =>
    (F_BP_valueAt N S q2 x2).bind fun (v4, S3) =>
    if v4 = (-1) then
    F_Mover_freePairs_35 N rec7 x0 x1 x2 S3
    else
    F_Mover_freePairs_35 N rec7 x0 (x1 &&& ((1 <<< (v4 &&& 31)) ^^^ (-1))) x2 S3)
def F_Mover_freePairs_7 (N : Nat)  (x0 : Nat) : Nat → Int32 → Int32 → pm_S → Option (Int32 × pm_S)
  | 0 => fun _ _ _ => none
  | n + 1 => fun x1 x2 S => B_Mover_freePairs_7 N  (F_Mover_freePairs_7 N  x0 n) x0 x1 x2 S
set_option maxHeartbeats 4000000 in
set_option maxRecDepth 20000 in
theorem f_Mover_freePairs_7 (sp : pm_I → List Value → pm_S → pm_O → Prop) (d N : Nat)  (x0 : Nat)  : ∀ (n : Nat) (x1 : Int32) (x2 : Int32) (S : pm_S) (r : (Int32 × pm_S)), F_Mover_freePairs_7 N  x0 n x1 x2 S = some r → pmE pG (pm_rel pG sp (d + 1)) mi_Mover_freePairs 7 [some (.ref x0), some (.int x1), some (.int x2), none] [] S (some (.int r.1), r.2) := by
  intro n
  induction n with
  | zero =>
    intro x1 x2 S r h
    cases h
  | succ n ih =>
    intro x1 x2 S r h
    replace h : B_Mover_freePairs_7 N  (F_Mover_freePairs_7 N  x0 n) x0 x1 x2 S = some r := h
    have hrec7 := ih
    generalize F_Mover_freePairs_7 N  x0 n = rec7 at h hrec7
    unfold B_Mover_freePairs_7 at h
    refine pE_jump 2 (pc' := 10) (ls' := [some (.ref x0), some (.int x1), some (.int x2), none]) (st' := [.int 10, .int x2]) (fun _ => rfl) ?_
    refine pE_br (10 ≤ x2) rfl rfl (fun c6 => ?_) (fun c6 => ?_)
    · rw [if_pos c6] at h
      refine pE_weak [none, some (.int x1), none, none] ⟨rfl, trivial⟩ ?_
      exact f_Mover_freePairs_41 sp d N x1 S _ h
    · rw [if_neg c6] at h
      refine pE_jump 1 (pc' := 14) (ls' := [some (.ref x0), some (.int x1), some (.int x2), none]) (st' := [.ref x0]) (fun _ => rfl) ?_
      obtain ⟨oq2, hq2, h⟩ := obind h
      cases oq2 with
      | none => cases h
      | some q2 =>
        try dsimp only at h
        refine pE_gfS rfl rfl hq2 ?_
        refine pE_jump 1 (pc' := 18) (ls' := [some (.ref x0), some (.int x1), some (.int x2), none]) (st' := [.int x2, .ref q2]) (fun _ => rfl) ?_
        obtain ⟨⟨v4, S3⟩, hv4, h⟩ := obind h
        try dsimp only at h
        refine pE_is (Bs := [.ref q2, .int x2]) (st := []) rfl rfl rfl (Nat.le_of_ble_eq_true rfl) (Nat.le_of_ble_eq_true rfl) (f_BP_valueAt sp d N S q2 x2 _ hv4) ?_
        refine pE_jump 3 (pc' := 24) (ls' := [some (.ref x0), some (.int x1), some (.int x2), some (.int v4)]) (st' := [.int (-1), .int v4]) (fun _ => rfl) ?_
        refine pE_br (v4 = (-1)) rfl rfl (fun c5 => ?_) (fun c5 => ?_)
        · rw [if_pos c5] at h
          refine pE_weak [some (.ref x0), some (.int x1), some (.int x2), none] ⟨rfl, ⟨rfl, ⟨rfl, trivial⟩⟩⟩ ?_
          exact f_Mover_freePairs_35 sp d N rec7 x0 x1 x2 S3 hrec7 _ h
        · rw [if_neg c5] at h
          refine pE_jump 8 (pc' := 35) (ls' := [some (.ref x0), some (.int (x1 &&& ((1 <<< (v4 &&& 31)) ^^^ (-1)))), some (.int x2), some (.int v4)]) (st' := []) (fun _ => rfl) ?_
          refine pE_weak [some (.ref x0), some (.int (x1 &&& ((1 <<< (v4 &&& 31)) ^^^ (-1)))), some (.int x2), none] ⟨rfl, ⟨rfl, ⟨rfl, trivial⟩⟩⟩ ?_
          exact f_Mover_freePairs_35 sp d N rec7 x0 (x1 &&& ((1 <<< (v4 &&& 31)) ^^^ (-1))) x2 S3 hrec7 _ h
def F_Mover_freePairs (N : Nat) (S : pm_S) (a : Nat) : Option (Int32 × pm_S) :=
    if rcv S a 3 = true then
    ((oI S a 3 3).bind fun v1 =>
    F_Mover_freePairs_7 N a N v1 0 S)
    else none
theorem g_Mover_freePairs {N : Nat} {S : pm_S} {a : Nat} {r : (Int32 × pm_S)} (h : F_Mover_freePairs N S a = some r) : rcv S a 3 = true := by
  unfold F_Mover_freePairs at h
  by_cases c : rcv S a 3 = true
  · exact c
  · rw [if_neg c] at h; cases h
set_option maxHeartbeats 4000000 in
set_option maxRecDepth 20000 in
theorem f_Mover_freePairs (sp : pm_I → List Value → pm_S → pm_O → Prop) (d N : Nat) (S : pm_S) (a : Nat) (r : (Int32 × pm_S)) (h : F_Mover_freePairs N S a = some r) : pm_rel pG sp (d + 2) mi_Mover_freePairs [.ref a] S (some (.int r.1), r.2) := by
  have hg := g_Mover_freePairs h
  unfold F_Mover_freePairs at h
  rw [if_pos hg] at h
  refine pE_rel (d := d + 1) ?_
  show pmE pG _ mi_Mover_freePairs 0 [some (.ref a), none, none, none] [] S _
  refine pE_jump 1 (pc' := 1) (ls' := [some (.ref a), none, none, none]) (st' := [.ref a]) (fun _ => rfl) ?_
  obtain ⟨v1, hv1, h⟩ := obind h
  refine pE_gfI rfl rfl hv1 ?_
  refine pE_jump 3 (pc' := 7) (ls' := [some (.ref a), some (.int v1), some (.int 0), none]) (st' := []) (fun _ => rfl) ?_
  exact f_Mover_freePairs_7 sp d N a N v1 0 S _ h
def F_Mover_isAstray_38 (N : Nat)  (t0 : Int32) (S : pm_S) : Option (Int32 × pm_S) :=
    if t0 = 0 ∨ t0 = 1 then some (t0, S) else none
set_option maxHeartbeats 4000000 in
set_option maxRecDepth 20000 in
theorem f_Mover_isAstray_38 (sp : pm_I → List Value → pm_S → pm_O → Prop) (d N : Nat)  (t0 : Int32) (S : pm_S)  (r : (Int32 × pm_S)) (h : F_Mover_isAstray_38 N  t0 S = some r) : pmE pG (pm_rel pG sp (d + 1)) mi_Mover_isAstray 38 [none, none, none, none] [.int t0] S (some (.int r.1), r.2) := by
  unfold F_Mover_isAstray_38 at h
  by_cases c7 : t0 = 0 ∨ t0 = 1
  · rw [if_pos c7] at h
    cases h
    exact pE_ret rfl (if_pos c7) rfl
  · rw [if_neg c7] at h
    cases h
def F_Mover_isAstray_37 (N : Nat)   (S : pm_S) : Option (Int32 × pm_S) :=
    F_Mover_isAstray_38 N 0 S
set_option maxHeartbeats 4000000 in
set_option maxRecDepth 20000 in
theorem f_Mover_isAstray_37 (sp : pm_I → List Value → pm_S → pm_O → Prop) (d N : Nat)   (S : pm_S)  (r : (Int32 × pm_S)) (h : F_Mover_isAstray_37 N   S = some r) : pmE pG (pm_rel pG sp (d + 1)) mi_Mover_isAstray 37 [none, none, none, none] [] S (some (.int r.1), r.2) := by
  unfold F_Mover_isAstray_37 at h
  refine pE_jump 1 (pc' := 38) (ls' := [none, none, none, none]) (st' := [.int 0]) (fun _ => rfl) ?_
  exact f_Mover_isAstray_38 sp d N 0 S _ h
def F_Mover_isAstray (N : Nat) (S : pm_S) (a : Nat) (p0 : Int32) : Option (Int32 × pm_S) :=
    if rcv S a 3 = true then
    ((oR S a 3 0).bind fun oq1 => match oq1 with
    | none => none
    | some q1 =>
    (F_BP_valueAt N S q1 p0).bind fun (v3, S2) =>
    (oR S2 a 3 1).bind fun oq4 => match oq4 with
    | none => none
    | some q4 =>
    (F_BP_valueAt N S2 q4 p0).bind fun (v6, S5) =>
    if v3 = (-1) then
    F_Mover_isAstray_37 N S5
    else
    (if v6 = (-1) then
    F_Mover_isAstray_37 N S5
    else
    (if v3 = v6 then
    F_Mover_isAstray_37 N S5
    else
    F_Mover_isAstray_38 N 1 S5)))
    else none
theorem g_Mover_isAstray {N : Nat} {S : pm_S} {a : Nat} {p0 : Int32} {r : (Int32 × pm_S)} (h : F_Mover_isAstray N S a p0 = some r) : rcv S a 3 = true := by
  unfold F_Mover_isAstray at h
  by_cases c : rcv S a 3 = true
  · exact c
  · rw [if_neg c] at h; cases h
set_option maxHeartbeats 4000000 in
set_option maxRecDepth 20000 in
theorem f_Mover_isAstray (sp : pm_I → List Value → pm_S → pm_O → Prop) (d N : Nat) (S : pm_S) (a : Nat) (p0 : Int32) (r : (Int32 × pm_S)) (h : F_Mover_isAstray N S a p0 = some r) : pm_rel pG sp (d + 2) mi_Mover_isAstray [.ref a, .int p0] S (some (.int r.1), r.2) := by
  have hg := g_Mover_isAstray h
  unfold F_Mover_isAstray at h
  rw [if_pos hg] at h
  refine pE_rel (d := d + 1) ?_
  show pmE pG _ mi_Mover_isAstray 0 [some (.ref a), some (.int p0), none, none] [] S _
  refine pE_jump 1 (pc' := 1) (ls' := [some (.ref a), some (.int p0), none, none]) (st' := [.ref a]) (fun _ => rfl) ?_
  obtain ⟨oq1, hq1, h⟩ := obind h
  cases oq1 with
  | none => cases h
  | some q1 =>
    try dsimp only at h
    refine pE_gfS rfl rfl hq1 ?_
    refine pE_jump 1 (pc' := 5) (ls' := [some (.ref a), some (.int p0), none, none]) (st' := [.int p0, .ref q1]) (fun _ => rfl) ?_
    obtain ⟨⟨v3, S2⟩, hv3, h⟩ := obind h
    try dsimp only at h
    refine pE_is (Bs := [.ref q1, .int p0]) (st := []) rfl rfl rfl (Nat.le_of_ble_eq_true rfl) (Nat.le_of_ble_eq_true rfl) (f_BP_valueAt sp d N S q1 p0 _ hv3) ?_
    refine pE_jump 2 (pc' := 10) (ls' := [some (.ref a), some (.int p0), some (.int v3), none]) (st' := [.ref a]) (fun _ => rfl) ?_
    obtain ⟨oq4, hq4, h⟩ := obind h
    cases oq4 with
    | none => cases h
    | some q4 =>
      try dsimp only at h
      refine pE_gfS rfl rfl hq4 ?_
      refine pE_jump 1 (pc' := 14) (ls' := [some (.ref a), some (.int p0), some (.int v3), none]) (st' := [.int p0, .ref q4]) (fun _ => rfl) ?_
      obtain ⟨⟨v6, S5⟩, hv6, h⟩ := obind h
      try dsimp only at h
      refine pE_is (Bs := [.ref q4, .int p0]) (st := []) rfl rfl rfl (Nat.le_of_ble_eq_true rfl) (Nat.le_of_ble_eq_true rfl) (f_BP_valueAt sp d N S2 q4 p0 _ hv6) ?_
      refine pE_jump 3 (pc' := 20) (ls' := [some (.ref a), some (.int p0), some (.int v3), some (.int v6)]) (st' := [.int (-1), .int v3]) (fun _ => rfl) ?_
      refine pE_br (v3 = (-1)) rfl rfl (fun c10 => ?_) (fun c10 => ?_)
      · rw [if_pos c10] at h
        refine pE_weak [none, none, none, none] trivial ?_
        exact f_Mover_isAstray_37 sp d N S5 _ h
      · rw [if_neg c10] at h
        refine pE_jump 2 (pc' := 25) (ls' := [some (.ref a), some (.int p0), some (.int v3), some (.int v6)]) (st' := [.int (-1), .int v6]) (fun _ => rfl) ?_
        refine pE_br (v6 = (-1)) rfl rfl (fun c9 => ?_) (fun c9 => ?_)
        · rw [if_pos c9] at h
          refine pE_weak [none, none, none, none] trivial ?_
          exact f_Mover_isAstray_37 sp d N S5 _ h
        · rw [if_neg c9] at h
          refine pE_jump 2 (pc' := 30) (ls' := [some (.ref a), some (.int p0), some (.int v3), some (.int v6)]) (st' := [.int v6, .int v3]) (fun _ => rfl) ?_
          refine pE_br (v3 = v6) rfl rfl (fun c8 => ?_) (fun c8 => ?_)
          · rw [if_pos c8] at h
            refine pE_weak [none, none, none, none] trivial ?_
            exact f_Mover_isAstray_37 sp d N S5 _ h
          · rw [if_neg c8] at h
            refine pE_jump 2 (pc' := 38) (ls' := [some (.ref a), some (.int p0), some (.int v3), some (.int v6)]) (st' := [.int 1]) (fun _ => rfl) ?_
            refine pE_weak [none, none, none, none] trivial ?_
            exact f_Mover_isAstray_38 sp d N 1 S5 _ h
def F_Mover_move_39 (N : Nat)  (x0 : Nat) (x1 : Int32) (x2 : Int32) (S : pm_S) : Option pm_S :=
    (oR S x0 3 0).bind fun oq4 => match oq4 with
    | none => none
    | some q4 =>
    (F_BP_setAt N S q4 x1 x2).bind fun S5 =>
    some S5
set_option maxHeartbeats 4000000 in
set_option maxRecDepth 20000 in
theorem f_Mover_move_39 (sp : pm_I → List Value → pm_S → pm_O → Prop) (d N : Nat)  (x0 : Nat) (x1 : Int32) (x2 : Int32) (S : pm_S)  (r : pm_S) (h : F_Mover_move_39 N  x0 x1 x2 S = some r) : pmE pG (pm_rel pG sp (d + 1)) mi_Mover_move 39 [some (.ref x0), some (.int x1), some (.int x2)] [] S (none, r) := by
  unfold F_Mover_move_39 at h
  refine pE_jump 1 (pc' := 40) (ls' := [some (.ref x0), some (.int x1), some (.int x2)]) (st' := [.ref x0]) (fun _ => rfl) ?_
  obtain ⟨oq4, hq4, h⟩ := obind h
  cases oq4 with
  | none => cases h
  | some q4 =>
    try dsimp only at h
    refine pE_gfS rfl rfl hq4 ?_
    refine pE_jump 2 (pc' := 45) (ls' := [some (.ref x0), some (.int x1), some (.int x2)]) (st' := [.int x2, .int x1, .ref q4]) (fun _ => rfl) ?_
    obtain ⟨S5, hS5, h⟩ := obind h
    refine pE_is (Bs := [.ref q4, .int x1, .int x2]) (st := []) rfl rfl rfl (Nat.le_of_ble_eq_true rfl) (Nat.le_of_ble_eq_true rfl) (f_BP_setAt sp d N S q4 x1 x2 _ hS5) ?_
    cases h
    exact pE_ret rfl rfl rfl
def F_Mover_move (N : Nat) (S : pm_S) (a : Nat) (p0 : Int32) (p1 : Int32) : Option pm_S :=
    if rcv S a 3 = true then
    ((oI S a 3 5).bind fun v1 =>
    (oR S a 3 2).bind fun oq2 => match oq2 with
    | none => none
    | some q2 =>
    (aNS S q2).bind fun v3 =>
    if v3 ≤ v1 then
    F_Mover_move_39 N a p0 p1 S
    else
    ((oR S a 3 2).bind fun oq6 => match oq6 with
    | none => none
    | some q6 =>
    (oI S a 3 5).bind fun v8 =>
    (F_BP_setAt N S q6 v8 ((8 * p0) + p1)).bind fun S9 =>
    (oI S9 a 3 5).bind fun v10 =>
    (wF S9 a 3 5 .int (.int (v10 + 1))).bind fun S11 =>
    F_Mover_move_39 N a p0 p1 S11))
    else none
theorem g_Mover_move {N : Nat} {S : pm_S} {a : Nat} {p0 : Int32} {p1 : Int32} {r : pm_S} (h : F_Mover_move N S a p0 p1 = some r) : rcv S a 3 = true := by
  unfold F_Mover_move at h
  by_cases c : rcv S a 3 = true
  · exact c
  · rw [if_neg c] at h; cases h
set_option maxHeartbeats 4000000 in
set_option maxRecDepth 20000 in
theorem f_Mover_move (sp : pm_I → List Value → pm_S → pm_O → Prop) (d N : Nat) (S : pm_S) (a : Nat) (p0 : Int32) (p1 : Int32) (r : pm_S) (h : F_Mover_move N S a p0 p1 = some r) : pm_rel pG sp (d + 2) mi_Mover_move [.ref a, .int p0, .int p1] S (none, r) := by
  have hg := g_Mover_move h
  unfold F_Mover_move at h
  rw [if_pos hg] at h
  refine pE_rel (d := d + 1) ?_
  show pmE pG _ mi_Mover_move 0 [some (.ref a), some (.int p0), some (.int p1)] [] S _
  refine pE_jump 1 (pc' := 1) (ls' := [some (.ref a), some (.int p0), some (.int p1)]) (st' := [.ref a]) (fun _ => rfl) ?_
  obtain ⟨v1, hv1, h⟩ := obind h
  refine pE_gfI rfl rfl hv1 ?_
  refine pE_jump 1 (pc' := 5) (ls' := [some (.ref a), some (.int p0), some (.int p1)]) (st' := [.ref a, .int v1]) (fun _ => rfl) ?_
  obtain ⟨oq2, hq2, h⟩ := obind h
  cases oq2 with
  | none => cases h
  | some q2 =>
    try dsimp only at h
    refine pE_gfS rfl rfl hq2 ?_
    obtain ⟨v3, hv3, h⟩ := obind h
    refine pE_aN rfl hv3 ?_
    refine pE_br (v3 ≤ v1) rfl rfl (fun c12 => ?_) (fun c12 => ?_)
    · rw [if_pos c12] at h
      exact f_Mover_move_39 sp d N a p0 p1 S _ h
    · rw [if_neg c12] at h
      refine pE_jump 1 (pc' := 13) (ls' := [some (.ref a), some (.int p0), some (.int p1)]) (st' := [.ref a]) (fun _ => rfl) ?_
      obtain ⟨oq6, hq6, h⟩ := obind h
      cases oq6 with
      | none => cases h
      | some q6 =>
        try dsimp only at h
        refine pE_gfS rfl rfl hq6 ?_
        refine pE_jump 1 (pc' := 17) (ls' := [some (.ref a), some (.int p0), some (.int p1)]) (st' := [.ref a, .ref q6]) (fun _ => rfl) ?_
        obtain ⟨v8, hv8, h⟩ := obind h
        refine pE_gfI rfl rfl hv8 ?_
        refine pE_jump 5 (pc' := 26) (ls' := [some (.ref a), some (.int p0), some (.int p1)]) (st' := [.int ((8 * p0) + p1), .int v8, .ref q6]) (fun _ => rfl) ?_
        obtain ⟨S9, hS9, h⟩ := obind h
        refine pE_is (Bs := [.ref q6, .int v8, .int ((8 * p0) + p1)]) (st := []) rfl rfl rfl (Nat.le_of_ble_eq_true rfl) (Nat.le_of_ble_eq_true rfl) (f_BP_setAt sp d N S q6 v8 ((8 * p0) + p1) _ hS9) ?_
        refine pE_jump 2 (pc' := 31) (ls' := [some (.ref a), some (.int p0), some (.int p1)]) (st' := [.ref a, .ref a]) (fun _ => rfl) ?_
        obtain ⟨v10, hv10, h⟩ := obind h
        refine pE_gfI rfl rfl hv10 ?_
        refine pE_jump 2 (pc' := 36) (ls' := [some (.ref a), some (.int p0), some (.int p1)]) (st' := [.int (v10 + 1), .ref a]) (fun _ => rfl) ?_
        obtain ⟨S11, hS11, h⟩ := obind h
        refine pE_pf rfl rfl rfl hS11 ?_
        exact f_Mover_move_39 sp d N a p0 p1 S11 _ h
def F_Mover_moveHome_52 (N : Nat)   (S : pm_S) : Option (Int32 × pm_S) :=
    some (0, S)
set_option maxHeartbeats 4000000 in
set_option maxRecDepth 20000 in
theorem f_Mover_moveHome_52 (sp : pm_I → List Value → pm_S → pm_O → Prop) (d N : Nat)   (S : pm_S)  (r : (Int32 × pm_S)) (h : F_Mover_moveHome_52 N   S = some r) : pmE pG (pm_rel pG sp (d + 2)) mi_Mover_moveHome 52 [none, none, none, none] [] S (some (.int r.1), r.2) := by
  unfold F_Mover_moveHome_52 at h
  refine pE_jump 1 (pc' := 53) (ls' := [none, none, none, none]) (st' := [.int 0]) (fun _ => rfl) ?_
  cases h
  exact pE_ret rfl rfl rfl
def F_Mover_moveHome_46 (N : Nat) (rec7 : Int32 → pm_S → Option (Int32 × pm_S)) (x0 : Nat) (x1 : Int32) (x2 : Int32) (S : pm_S) : Option (Int32 × pm_S) :=
    rec7 (x2 + 1) S
set_option maxHeartbeats 4000000 in
set_option maxRecDepth 20000 in
theorem f_Mover_moveHome_46 (sp : pm_I → List Value → pm_S → pm_O → Prop) (d N : Nat) (rec7 : Int32 → pm_S → Option (Int32 × pm_S)) (x0 : Nat) (x1 : Int32) (x2 : Int32) (S : pm_S) (hrec7 : ∀ (y1 : Int32) (U : pm_S) (r : (Int32 × pm_S)), rec7 y1 U = some r → pmE pG (pm_rel pG sp (d + 2)) mi_Mover_moveHome 7 [some (.ref x0), some (.int x1), some (.int y1), none] [] U (some (.int r.1), r.2)) (r : (Int32 × pm_S)) (h : F_Mover_moveHome_46 N rec7 x0 x1 x2 S = some r) : pmE pG (pm_rel pG sp (d + 2)) mi_Mover_moveHome 46 [some (.ref x0), some (.int x1), some (.int x2), none] [] S (some (.int r.1), r.2) := by
  unfold F_Mover_moveHome_46 at h
  refine pE_jump 2 (pc' := 7) (ls' := [some (.ref x0), some (.int x1), some (.int (x2 + 1)), none]) (st' := []) (fun _ => rfl) ?_
  exact hrec7 (x2 + 1) S _ h
def F_Mover_moveHome_38 (N : Nat)  (x0 : Nat) (x2 : Int32) (x3 : Int32) (S : pm_S) : Option (Int32 × pm_S) :=
    (F_Mover_move N S x0 x2 x3).bind fun S8 =>
    some (1, S8)
set_option maxHeartbeats 4000000 in
set_option maxRecDepth 20000 in
theorem f_Mover_moveHome_38 (sp : pm_I → List Value → pm_S → pm_O → Prop) (d N : Nat)  (x0 : Nat) (x2 : Int32) (x3 : Int32) (S : pm_S)  (r : (Int32 × pm_S)) (h : F_Mover_moveHome_38 N  x0 x2 x3 S = some r) : pmE pG (pm_rel pG sp (d + 2)) mi_Mover_moveHome 38 [some (.ref x0), none, some (.int x2), some (.int x3)] [] S (some (.int r.1), r.2) := by
  unfold F_Mover_moveHome_38 at h
  refine pE_jump 3 (pc' := 41) (ls' := [some (.ref x0), none, some (.int x2), some (.int x3)]) (st' := [.int x3, .int x2, .ref x0]) (fun _ => rfl) ?_
  obtain ⟨S8, hS8, h⟩ := obind h
  refine pE_iv (Bs := [.int x2, .int x3]) (st := []) 1 rfl (Or.inl ⟨rfl, rfl⟩) rfl rfl (Nat.le_of_ble_eq_true rfl) (Nat.le_of_ble_eq_true rfl) (g_Mover_move hS8) (f_Mover_move sp d N S x0 x2 x3 _ hS8) ?_
  refine pE_jump 1 (pc' := 45) (ls' := [some (.ref x0), none, some (.int x2), some (.int x3)]) (st' := [.int 1]) (fun _ => rfl) ?_
  cases h
  exact pE_ret rfl rfl rfl
def B_Mover_moveHome_7 (N : Nat)  (rec7 : Int32 → pm_S → Option (Int32 × pm_S)) (x0 : Nat) (x1 : Int32) (x2 : Int32) (S : pm_S) : Option (Int32 × pm_S) :=
    if 10 ≤ x2 then
    F_Mover_moveHome_52 N S
    else
    ((oR S x0 3 1).bind fun oq3 => match oq3 with
    | none => none
    | some q3 =>
    (F_BP_valueAt N S q3 x2).bind fun (v5, S4) =>
    (F_Mover_isAstray N S4 x0 x2).bind fun (v7, S6) =>
    if v7 = 0 then
    F_Mover_moveHome_46 N rec7 x0 x1 x2 S6
    else
    (if ((x1 >>> (v5 &&& 31)) &&& 1) = 0 then
    F_Mover_moveHome_46 N rec7 x0 x1 x2 S6
    else
    F_Mover_moveHome_38 N x0 x2 v5 S6))
def F_Mover_moveHome_7 (N : Nat)  (x0 : Nat) (x1 : Int32) : Nat → Int32 → pm_S → Option (Int32 × pm_S)
  | 0 => fun _ _ => none
  | n + 1 => fun x2 S => B_Mover_moveHome_7 N  (F_Mover_moveHome_7 N  x0 x1 n) x0 x1 x2 S
set_option maxHeartbeats 4000000 in
set_option maxRecDepth 20000 in
theorem f_Mover_moveHome_7 (sp : pm_I → List Value → pm_S → pm_O → Prop) (d N : Nat)  (x0 : Nat) (x1 : Int32)  : ∀ (n : Nat) (x2 : Int32) (S : pm_S) (r : (Int32 × pm_S)), F_Mover_moveHome_7 N  x0 x1 n x2 S = some r → pmE pG (pm_rel pG sp (d + 2)) mi_Mover_moveHome 7 [some (.ref x0), some (.int x1), some (.int x2), none] [] S (some (.int r.1), r.2) := by
  intro n
  induction n with
  | zero =>
    intro x2 S r h
    cases h
  | succ n ih =>
    intro x2 S r h
    replace h : B_Mover_moveHome_7 N  (F_Mover_moveHome_7 N  x0 x1 n) x0 x1 x2 S = some r := h
    have hrec7 := ih
    generalize F_Mover_moveHome_7 N  x0 x1 n = rec7 at h hrec7
    unfold B_Mover_moveHome_7 at h
    refine pE_jump 2 (pc' := 10) (ls' := [some (.ref x0), some (.int x1), some (.int x2), none]) (st' := [.int 10, .int x2]) (fun _ => rfl) ?_
    refine pE_br (10 ≤ x2) rfl rfl (fun c11 => ?_) (fun c11 => ?_)
    · rw [if_pos c11] at h
      refine pE_weak [none, none, none, none] trivial ?_
      exact f_Mover_moveHome_52 sp d N S _ h
    · rw [if_neg c11] at h
      refine pE_jump 1 (pc' := 14) (ls' := [some (.ref x0), some (.int x1), some (.int x2), none]) (st' := [.ref x0]) (fun _ => rfl) ?_
      obtain ⟨oq3, hq3, h⟩ := obind h
      cases oq3 with
      | none => cases h
      | some q3 =>
        try dsimp only at h
        refine pE_gfS rfl rfl hq3 ?_
        refine pE_jump 1 (pc' := 18) (ls' := [some (.ref x0), some (.int x1), some (.int x2), none]) (st' := [.int x2, .ref q3]) (fun _ => rfl) ?_
        obtain ⟨⟨v5, S4⟩, hv5, h⟩ := obind h
        try dsimp only at h
        refine pE_is (Bs := [.ref q3, .int x2]) (st := []) rfl rfl rfl (Nat.le_of_ble_eq_true rfl) (Nat.le_of_ble_eq_true rfl) (f_BP_valueAt sp (d + 1) N S q3 x2 _ hv5) ?_
        refine pE_jump 3 (pc' := 24) (ls' := [some (.ref x0), some (.int x1), some (.int x2), some (.int v5)]) (st' := [.int x2, .ref x0]) (fun _ => rfl) ?_
        obtain ⟨⟨v7, S6⟩, hv7, h⟩ := obind h
        try dsimp only at h
        refine pE_iv (Bs := [.int x2]) (st := []) 1 rfl (Or.inl ⟨rfl, rfl⟩) rfl rfl (Nat.le_of_ble_eq_true rfl) (Nat.le_of_ble_eq_true rfl) (g_Mover_isAstray hv7) (f_Mover_isAstray sp d N S4 x0 x2 _ hv7) ?_
        refine pE_br (v7 = 0) rfl rfl (fun c10 => ?_) (fun c10 => ?_)
        · rw [if_pos c10] at h
          refine pE_weak [some (.ref x0), some (.int x1), some (.int x2), none] ⟨rfl, ⟨rfl, ⟨rfl, trivial⟩⟩⟩ ?_
          exact f_Mover_moveHome_46 sp d N rec7 x0 x1 x2 S6 hrec7 _ h
        · rw [if_neg c10] at h
          refine pE_jump 5 (pc' := 35) (ls' := [some (.ref x0), some (.int x1), some (.int x2), some (.int v5)]) (st' := [.int ((x1 >>> (v5 &&& 31)) &&& 1)]) (fun _ => rfl) ?_
          refine pE_br (((x1 >>> (v5 &&& 31)) &&& 1) = 0) rfl rfl (fun c9 => ?_) (fun c9 => ?_)
          · rw [if_pos c9] at h
            refine pE_weak [some (.ref x0), some (.int x1), some (.int x2), none] ⟨rfl, ⟨rfl, ⟨rfl, trivial⟩⟩⟩ ?_
            exact f_Mover_moveHome_46 sp d N rec7 x0 x1 x2 S6 hrec7 _ h
          · rw [if_neg c9] at h
            refine pE_weak [some (.ref x0), none, some (.int x2), some (.int v5)] ⟨rfl, ⟨rfl, ⟨rfl, trivial⟩⟩⟩ ?_
            exact f_Mover_moveHome_38 sp d N x0 x2 v5 S6 _ h
def F_Mover_moveHome (N : Nat) (S : pm_S) (a : Nat) : Option (Int32 × pm_S) :=
    if rcv S a 3 = true then
    ((F_Mover_freePairs N S a).bind fun (v2, S1) =>
    F_Mover_moveHome_7 N a v2 N 0 S1)
    else none
theorem g_Mover_moveHome {N : Nat} {S : pm_S} {a : Nat} {r : (Int32 × pm_S)} (h : F_Mover_moveHome N S a = some r) : rcv S a 3 = true := by
  unfold F_Mover_moveHome at h
  by_cases c : rcv S a 3 = true
  · exact c
  · rw [if_neg c] at h; cases h
set_option maxHeartbeats 4000000 in
set_option maxRecDepth 20000 in
theorem f_Mover_moveHome (sp : pm_I → List Value → pm_S → pm_O → Prop) (d N : Nat) (S : pm_S) (a : Nat) (r : (Int32 × pm_S)) (h : F_Mover_moveHome N S a = some r) : pm_rel pG sp (d + 3) mi_Mover_moveHome [.ref a] S (some (.int r.1), r.2) := by
  have hg := g_Mover_moveHome h
  unfold F_Mover_moveHome at h
  rw [if_pos hg] at h
  refine pE_rel (d := d + 2) ?_
  show pmE pG _ mi_Mover_moveHome 0 [some (.ref a), none, none, none] [] S _
  refine pE_jump 1 (pc' := 1) (ls' := [some (.ref a), none, none, none]) (st' := [.ref a]) (fun _ => rfl) ?_
  obtain ⟨⟨v2, S1⟩, hv2, h⟩ := obind h
  try dsimp only at h
  refine pE_iv (Bs := []) (st := []) 1 rfl (Or.inl ⟨rfl, rfl⟩) rfl rfl (Nat.le_of_ble_eq_true rfl) (Nat.le_of_ble_eq_true rfl) (g_Mover_freePairs hv2) (f_Mover_freePairs sp d N S a _ hv2) ?_
  refine pE_jump 3 (pc' := 7) (ls' := [some (.ref a), some (.int v2), some (.int 0), none]) (st' := []) (fun _ => rfl) ?_
  exact f_Mover_moveHome_7 sp d N a v2 N 0 S1 _ h
def F_Mover_houseOn_33 (N : Nat)   (S : pm_S) : Option (Int32 × pm_S) :=
    some ((-1), S)
set_option maxHeartbeats 4000000 in
set_option maxRecDepth 20000 in
theorem f_Mover_houseOn_33 (sp : pm_I → List Value → pm_S → pm_O → Prop) (d N : Nat)   (S : pm_S)  (r : (Int32 × pm_S)) (h : F_Mover_houseOn_33 N   S = some r) : pmE pG (pm_rel pG sp (d + 1)) mi_Mover_houseOn 33 [none, none, none] [] S (some (.int r.1), r.2) := by
  unfold F_Mover_houseOn_33 at h
  refine pE_jump 1 (pc' := 34) (ls' := [none, none, none]) (st' := [.int (-1)]) (fun _ => rfl) ?_
  cases h
  exact pE_ret rfl rfl rfl
def F_Mover_houseOn_27 (N : Nat) (rec2 : Int32 → pm_S → Option (Int32 × pm_S)) (x0 : Nat) (x1 : Int32) (x2 : Int32) (S : pm_S) : Option (Int32 × pm_S) :=
    rec2 (x2 + 1) S
set_option maxHeartbeats 4000000 in
set_option maxRecDepth 20000 in
theorem f_Mover_houseOn_27 (sp : pm_I → List Value → pm_S → pm_O → Prop) (d N : Nat) (rec2 : Int32 → pm_S → Option (Int32 × pm_S)) (x0 : Nat) (x1 : Int32) (x2 : Int32) (S : pm_S) (hrec2 : ∀ (y1 : Int32) (U : pm_S) (r : (Int32 × pm_S)), rec2 y1 U = some r → pmE pG (pm_rel pG sp (d + 1)) mi_Mover_houseOn 2 [some (.ref x0), some (.int x1), some (.int y1)] [] U (some (.int r.1), r.2)) (r : (Int32 × pm_S)) (h : F_Mover_houseOn_27 N rec2 x0 x1 x2 S = some r) : pmE pG (pm_rel pG sp (d + 1)) mi_Mover_houseOn 27 [some (.ref x0), some (.int x1), some (.int x2)] [] S (some (.int r.1), r.2) := by
  unfold F_Mover_houseOn_27 at h
  refine pE_jump 2 (pc' := 2) (ls' := [some (.ref x0), some (.int x1), some (.int (x2 + 1))]) (st' := []) (fun _ => rfl) ?_
  exact hrec2 (x2 + 1) S _ h
def F_Mover_houseOn_25 (N : Nat)  (x2 : Int32) (S : pm_S) : Option (Int32 × pm_S) :=
    some (x2, S)
set_option maxHeartbeats 4000000 in
set_option maxRecDepth 20000 in
theorem f_Mover_houseOn_25 (sp : pm_I → List Value → pm_S → pm_O → Prop) (d N : Nat)  (x2 : Int32) (S : pm_S)  (r : (Int32 × pm_S)) (h : F_Mover_houseOn_25 N  x2 S = some r) : pmE pG (pm_rel pG sp (d + 1)) mi_Mover_houseOn 25 [none, none, some (.int x2)] [] S (some (.int r.1), r.2) := by
  unfold F_Mover_houseOn_25 at h
  refine pE_jump 1 (pc' := 26) (ls' := [none, none, some (.int x2)]) (st' := [.int x2]) (fun _ => rfl) ?_
  cases h
  exact pE_ret rfl rfl rfl
def B_Mover_houseOn_2 (N : Nat)  (rec2 : Int32 → pm_S → Option (Int32 × pm_S)) (x0 : Nat) (x1 : Int32) (x2 : Int32) (S : pm_S) : Option (Int32 × pm_S) :=
    if 10 ≤ x2 then
    F_Mover_houseOn_33 N S
    else
    (if x1 = (-1) then
    F_Mover_houseOn_27 N rec2 x0 x1 x2 S
    else
    ((oR S x0 3 0).bind fun oq1 => match oq1 with
    | none => none
    | some q1 =>
    (F_BP_valueAt N S q1 x2).bind fun (v3, S2) =>
    if v3 = x1 then
    F_Mover_houseOn_25 N x2 S2
    else
    F_Mover_houseOn_27 N rec2 x0 x1 x2 S2))
def F_Mover_houseOn_2 (N : Nat)  (x0 : Nat) (x1 : Int32) : Nat → Int32 → pm_S → Option (Int32 × pm_S)
  | 0 => fun _ _ => none
  | n + 1 => fun x2 S => B_Mover_houseOn_2 N  (F_Mover_houseOn_2 N  x0 x1 n) x0 x1 x2 S
set_option maxHeartbeats 4000000 in
set_option maxRecDepth 20000 in
theorem f_Mover_houseOn_2 (sp : pm_I → List Value → pm_S → pm_O → Prop) (d N : Nat)  (x0 : Nat) (x1 : Int32)  : ∀ (n : Nat) (x2 : Int32) (S : pm_S) (r : (Int32 × pm_S)), F_Mover_houseOn_2 N  x0 x1 n x2 S = some r → pmE pG (pm_rel pG sp (d + 1)) mi_Mover_houseOn 2 [some (.ref x0), some (.int x1), some (.int x2)] [] S (some (.int r.1), r.2) := by
  intro n
  induction n with
  | zero =>
    intro x2 S r h
    cases h
  | succ n ih =>
    intro x2 S r h
    replace h : B_Mover_houseOn_2 N  (F_Mover_houseOn_2 N  x0 x1 n) x0 x1 x2 S = some r := h
    have hrec2 := ih
    generalize F_Mover_houseOn_2 N  x0 x1 n = rec2 at h hrec2
    unfold B_Mover_houseOn_2 at h
    refine pE_jump 2 (pc' := 5) (ls' := [some (.ref x0), some (.int x1), some (.int x2)]) (st' := [.int 10, .int x2]) (fun _ => rfl) ?_
    refine pE_br (10 ≤ x2) rfl rfl (fun c6 => ?_) (fun c6 => ?_)
    · rw [if_pos c6] at h
      refine pE_weak [none, none, none] trivial ?_
      exact f_Mover_houseOn_33 sp d N S _ h
    · rw [if_neg c6] at h
      refine pE_jump 2 (pc' := 10) (ls' := [some (.ref x0), some (.int x1), some (.int x2)]) (st' := [.int (-1), .int x1]) (fun _ => rfl) ?_
      refine pE_br (x1 = (-1)) rfl rfl (fun c5 => ?_) (fun c5 => ?_)
      · rw [if_pos c5] at h
        exact f_Mover_houseOn_27 sp d N rec2 x0 x1 x2 S hrec2 _ h
      · rw [if_neg c5] at h
        refine pE_jump 1 (pc' := 14) (ls' := [some (.ref x0), some (.int x1), some (.int x2)]) (st' := [.ref x0]) (fun _ => rfl) ?_
        obtain ⟨oq1, hq1, h⟩ := obind h
        cases oq1 with
        | none => cases h
        | some q1 =>
          try dsimp only at h
          refine pE_gfS rfl rfl hq1 ?_
          refine pE_jump 1 (pc' := 18) (ls' := [some (.ref x0), some (.int x1), some (.int x2)]) (st' := [.int x2, .ref q1]) (fun _ => rfl) ?_
          obtain ⟨⟨v3, S2⟩, hv3, h⟩ := obind h
          try dsimp only at h
          refine pE_is (Bs := [.ref q1, .int x2]) (st := []) rfl rfl rfl (Nat.le_of_ble_eq_true rfl) (Nat.le_of_ble_eq_true rfl) (f_BP_valueAt sp d N S q1 x2 _ hv3) ?_
          refine pE_jump 1 (pc' := 22) (ls' := [some (.ref x0), some (.int x1), some (.int x2)]) (st' := [.int x1, .int v3]) (fun _ => rfl) ?_
          refine pE_br (¬ v3 = x1) rfl rfl (fun c4 => ?_) (fun c4 => ?_)
          · rw [if_neg c4] at h
            exact f_Mover_houseOn_27 sp d N rec2 x0 x1 x2 S2 hrec2 _ h
          · have c4 := Decidable.not_not.mp c4
            rw [if_pos c4] at h
            refine pE_weak [none, none, some (.int x2)] ⟨rfl, trivial⟩ ?_
            exact f_Mover_houseOn_25 sp d N x2 S2 _ h
def F_Mover_houseOn (N : Nat) (S : pm_S) (a : Nat) (p0 : Int32) : Option (Int32 × pm_S) :=
    if rcv S a 3 = true then
    (F_Mover_houseOn_2 N a p0 N 0 S)
    else none
theorem g_Mover_houseOn {N : Nat} {S : pm_S} {a : Nat} {p0 : Int32} {r : (Int32 × pm_S)} (h : F_Mover_houseOn N S a p0 = some r) : rcv S a 3 = true := by
  unfold F_Mover_houseOn at h
  by_cases c : rcv S a 3 = true
  · exact c
  · rw [if_neg c] at h; cases h
set_option maxHeartbeats 4000000 in
set_option maxRecDepth 20000 in
theorem f_Mover_houseOn (sp : pm_I → List Value → pm_S → pm_O → Prop) (d N : Nat) (S : pm_S) (a : Nat) (p0 : Int32) (r : (Int32 × pm_S)) (h : F_Mover_houseOn N S a p0 = some r) : pm_rel pG sp (d + 2) mi_Mover_houseOn [.ref a, .int p0] S (some (.int r.1), r.2) := by
  have hg := g_Mover_houseOn h
  unfold F_Mover_houseOn at h
  rw [if_pos hg] at h
  refine pE_rel (d := d + 1) ?_
  show pmE pG _ mi_Mover_houseOn 0 [some (.ref a), some (.int p0), none] [] S _
  refine pE_jump 2 (pc' := 2) (ls' := [some (.ref a), some (.int p0), some (.int 0)]) (st' := []) (fun _ => rfl) ?_
  exact f_Mover_houseOn_2 sp d N a p0 N 0 S _ h
