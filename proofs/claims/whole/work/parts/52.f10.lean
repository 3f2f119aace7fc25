def F_Bench_columnsOfAll_34 (N : Nat)  (x3 : Int32) (S : pm_S) : Option (Int32 × pm_S) :=
    some (x3, S)
set_option maxHeartbeats 4000000 in
set_option maxRecDepth 20000 in
theorem f_Bench_columnsOfAll_34 (sp : pm_I → List Value → pm_S → pm_O → Prop) (d N : Nat)  (x3 : Int32) (S : pm_S)  (r : (Int32 × pm_S)) (h : F_Bench_columnsOfAll_34 N  x3 S = some r) : pmE pG (pm_rel pG sp (d + 1)) mi_Bench_columnsOfAll 34 [none, none, none, some (.int x3), none] [] S (some (.int r.1), r.2) := by
  unfold F_Bench_columnsOfAll_34 at h
  refine pE_jump 1 (pc' := 35) (ls' := [none, none, none, some (.int x3), none]) (st' := [.int x3]) (fun _ => rfl) ?_
  cases h
  exact pE_ret rfl rfl rfl
def B_Bench_columnsOfAll_5 (N : Nat)  (rec5 : Int32 → Int32 → pm_S → Option (Int32 × pm_S)) (x1 : Nat) (x2 : Int32) (x3 : Int32) (x4 : Int32) (S : pm_S) : Option (Int32 × pm_S) :=
    (oR S x1 4 8).bind fun oq1 => match oq1 with
    | none => none
    | some q1 =>
    (F_Ledger_size N S q1).bind fun (v3, S2) =>
    if v3 ≤ x4 then
    F_Bench_columnsOfAll_34 N x3 S2
    else
    ((F_Sheet_columnOf N S2 x4 x2).bind fun (v5, S4) =>
    rec5 (x3 ||| (1 <<< (v5 &&& 31))) (x4 + 1) S4)
def F_Bench_columnsOfAll_5 (N : Nat)  (x1 : Nat) (x2 : Int32) : Nat → Int32 → Int32 → pm_S → Option (Int32 × pm_S)
  | 0 => fun _ _ _ => none
  | n + 1 => fun x3 x4 S => B_Bench_columnsOfAll_5 N  (F_Bench_columnsOfAll_5 N  x1 x2 n) x1 x2 x3 x4 S
set_option maxHeartbeats 4000000 in
set_option maxRecDepth 20000 in
theorem f_Bench_columnsOfAll_5 (sp : pm_I → List Value → pm_S → pm_O → Prop) (d N : Nat)  (x1 : Nat) (x2 : Int32)  : ∀ (n : Nat) (x3 : Int32) (x4 : Int32) (S : pm_S) (r : (Int32 × pm_S)), F_Bench_columnsOfAll_5 N  x1 x2 n x3 x4 S = some r → pmE pG (pm_rel pG sp (d + 1)) mi_Bench_columnsOfAll 5 [none, some (.ref x1), some (.int x2), some (.int x3), some (.int x4)] [] S (some (.int r.1), r.2) := by
  intro n
  induction n with
  | zero =>
    intro x3 x4 S r h
    cases h
  | succ n ih =>
    intro x3 x4 S r h
    replace h : B_Bench_columnsOfAll_5 N  (F_Bench_columnsOfAll_5 N  x1 x2 n) x1 x2 x3 x4 S = some r := h
    have hrec5 := ih
    generalize F_Bench_columnsOfAll_5 N  x1 x2 n = rec5 at h hrec5
    unfold B_Bench_columnsOfAll_5 at h
    refine pE_jump 2 (pc' := 8) (ls' := [none, some (.ref x1), some (.int x2), some (.int x3), some (.int x4)]) (st' := [.ref x1, .int x4]) (fun _ => rfl) ?_
    obtain ⟨oq1, hq1, h⟩ := obind h
    cases oq1 with
    | none => cases h
    | some q1 =>
      try dsimp only at h
      refine pE_gfS rfl rfl hq1 ?_
      obtain ⟨⟨v3, S2⟩, hv3, h⟩ := obind h
      try dsimp only at h
      refine pE_iv (Bs := []) (st := [.int x4]) 1 rfl (Or.inl ⟨rfl, rfl⟩) rfl rfl (Nat.le_of_ble_eq_true rfl) (Nat.le_of_ble_eq_true rfl) (g_Ledger_size hv3) (f_Ledger_size sp d N S q1 _ hv3) ?_
      refine pE_br (v3 ≤ x4) rfl rfl (fun c6 => ?_) (fun c6 => ?_)
      · rw [if_pos c6] at h
        refine pE_weak [none, none, none, some (.int x3), none] ⟨rfl, trivial⟩ ?_
        exact f_Bench_columnsOfAll_34 sp d N x3 S2 _ h
      · rw [if_neg c6] at h
        refine pE_jump 4 (pc' := 22) (ls' := [none, some (.ref x1), some (.int x2), some (.int x3), some (.int x4)]) (st' := [.int x2, .int x4, .int 1, .int x3]) (fun _ => rfl) ?_
        obtain ⟨⟨v5, S4⟩, hv5, h⟩ := obind h
        try dsimp only at h
        refine pE_is (Bs := [.int x4, .int x2]) (st := [.int 1, .int x3]) rfl rfl rfl (Nat.le_of_ble_eq_true rfl) (Nat.le_of_ble_eq_true rfl) (f_Sheet_columnOf sp d N S2 x4 x2 _ hv5) ?_
        refine pE_jump 5 (pc' := 5) (ls' := [none, some (.ref x1), some (.int x2), some (.int (x3 ||| (1 <<< (v5 &&& 31)))), some (.int (x4 + 1))]) (st' := []) (fun _ => rfl) ?_
        exact hrec5 (x3 ||| (1 <<< (v5 &&& 31))) (x4 + 1) S4 _ h
def F_Bench_columnsOfAll (N : Nat) (S : pm_S) (a : Nat) (p0 : Nat) (p1 : Int32) : Option (Int32 × pm_S) :=
    if rcv S a 0 = true then
    (F_Bench_columnsOfAll_5 N p0 p1 N 0 0 S)
    else none
theorem g_Bench_columnsOfAll {N : Nat} {S : pm_S} {a : Nat} {p0 : Nat} {p1 : Int32} {r : (Int32 × pm_S)} (h : F_Bench_columnsOfAll N S a p0 p1 = some r) : rcv S a 0 = true := by
  unfold F_Bench_columnsOfAll at h
  by_cases c : rcv S a 0 = true
  · exact c
  · rw [if_neg c] at h; cases h
set_option maxHeartbeats 4000000 in
set_option maxRecDepth 20000 in
theorem f_Bench_columnsOfAll (sp : pm_I → List Value → pm_S → pm_O → Prop) (d N : Nat) (S : pm_S) (a : Nat) (p0 : Nat) (p1 : Int32) (r : (Int32 × pm_S)) (h : F_Bench_columnsOfAll N S a p0 p1 = some r) : pm_rel pG sp (d + 2) mi_Bench_columnsOfAll [.ref a, .ref p0, .int p1] S (some (.int r.1), r.2) := by
  have hg := g_Bench_columnsOfAll h
  unfold F_Bench_columnsOfAll at h
  rw [if_pos hg] at h
  refine pE_rel (d := d + 1) ?_
  show pmE pG _ mi_Bench_columnsOfAll 0 [some (.ref a), some (.ref p0), some (.int p1), none, none] [] S _
  refine pE_jump 4 (pc' := 5) (ls' := [some (.ref a), some (.ref p0), some (.int p1), some (.int 0), some (.int 0)]) (st' := []) (fun _ => rfl) ?_
  refine pE_weak [none, some (.ref p0), some (.int p1), some (.int 0), some (.int 0)] ⟨rfl, ⟨rfl, ⟨rfl, ⟨rfl, trivial⟩⟩⟩⟩ ?_
  exact f_Bench_columnsOfAll_5 sp d N p0 p1 N 0 0 S _ h
def F_Plan_boxOfTest (N : Nat) (S : pm_S) (a : Nat) (p0 : Int32) : Option (Int32 × pm_S) :=
    if rcv S a 4 = true then
    ((oR S a 4 8).bind fun oq1 => match oq1 with
    | none => none
    | some q1 =>
    (F_Ledger_at N S q1 p0 3).bind fun (v3, S2) =>
    (oR S2 a 4 8).bind fun oq4 => match oq4 with
    | none => none
    | some q4 =>
    (F_Ledger_at N S2 q4 p0 4).bind fun (v6, S5) =>
    (F_Plan_boxAt N S5 a v3 v6).bind fun (v8, S7) =>
    some (v8, S7))
    else none
theorem g_Plan_boxOfTest {N : Nat} {S : pm_S} {a : Nat} {p0 : Int32} {r : (Int32 × pm_S)} (h : F_Plan_boxOfTest N S a p0 = some r) : rcv S a 4 = true := by
  unfold F_Plan_boxOfTest at h
  by_cases c : rcv S a 4 = true
  · exact c
  · rw [if_neg c] at h; cases h
set_option maxHeartbeats 4000000 in
set_option maxRecDepth 20000 in
theorem f_Plan_boxOfTest (sp : pm_I → List Value → pm_S → pm_O → Prop) (d N : Nat) (S : pm_S) (a : Nat) (p0 : Int32) (r : (Int32 × pm_S)) (h : F_Plan_boxOfTest N S a p0 = some r) : pm_rel pG sp (d + 3) mi_Plan_boxOfTest [.ref a, .int p0] S (some (.int r.1), r.2) := by
  have hg := g_Plan_boxOfTest h
  unfold F_Plan_boxOfTest at h
  rw [if_pos hg] at h
  refine pE_rel (d := d + 2) ?_
  show pmE pG _ mi_Plan_boxOfTest 0 [some (.ref a), some (.int p0)] [] S _
  refine pE_jump 2 (pc' := 2) (ls' := [some (.ref a), some (.int p0)]) (st' := [.ref a, .ref a]) (fun _ => rfl) ?_
  obtain ⟨oq1, hq1, h⟩ := obind h
  cases oq1 with
  | none => cases h
  | some q1 =>
    try dsimp only at h
    refine pE_gfS rfl rfl hq1 ?_
    refine pE_jump 2 (pc' := 7) (ls' := [some (.ref a), some (.int p0)]) (st' := [.int 3, .int p0, .ref q1, .ref a]) (fun _ => rfl) ?_
    obtain ⟨⟨v3, S2⟩, hv3, h⟩ := obind h
    try dsimp only at h
    refine pE_iv (Bs := [.int p0, .int 3]) (st := [.ref a]) 1 rfl (Or.inl ⟨rfl, rfl⟩) rfl rfl (Nat.le_of_ble_eq_true rfl) (Nat.le_of_ble_eq_true rfl) (g_Ledger_at hv3) (f_Ledger_at sp (d + 1) N S q1 p0 3 _ hv3) ?_
    refine pE_jump 1 (pc' := 11) (ls' := [some (.ref a), some (.int p0)]) (st' := [.ref a, .int v3, .ref a]) (fun _ => rfl) ?_
    obtain ⟨oq4, hq4, h⟩ := obind h
    cases oq4 with
    | none => cases h
    | some q4 =>
      try dsimp only at h
      refine pE_gfS rfl rfl hq4 ?_
      refine pE_jump 2 (pc' := 16) (ls' := [some (.ref a), some (.int p0)]) (st' := [.int 4, .int p0, .ref q4, .int v3, .ref a]) (fun _ => rfl) ?_
      obtain ⟨⟨v6, S5⟩, hv6, h⟩ := obind h
      try dsimp only at h
      refine pE_iv (Bs := [.int p0, .int 4]) (st := [.int v3, .ref a]) 1 rfl (Or.inl ⟨rfl, rfl⟩) rfl rfl (Nat.le_of_ble_eq_true rfl) (Nat.le_of_ble_eq_true rfl) (g_Ledger_at hv6) (f_Ledger_at sp (d + 1) N S2 q4 p0 4 _ hv6) ?_
      obtain ⟨⟨v8, S7⟩, hv8, h⟩ := obind h
      try dsimp only at h
      refine pE_iv (Bs := [.int v3, .int v6]) (st := []) 1 rfl (Or.inl ⟨rfl, rfl⟩) rfl rfl (Nat.le_of_ble_eq_true rfl) (Nat.le_of_ble_eq_true rfl) (g_Plan_boxAt hv8) (f_Plan_boxAt sp d N S5 a v3 v6 _ hv8) ?_
      cases h
      exact pE_ret rfl rfl rfl
def F_Plan_way_16 (N : Nat)   (S : pm_S) : Option (Int32 × pm_S) :=
    some ((-1), S)
set_option maxHeartbeats 4000000 in
set_option maxRecDepth 20000 in
theorem f_Plan_way_16 (sp : pm_I → List Value → pm_S → pm_O → Prop) (d N : Nat)   (S : pm_S)  (r : (Int32 × pm_S)) (h : F_Plan_way_16 N   S = some r) : pmE pG (pm_rel pG sp (d + 2)) mi_Plan_way 16 [none, none, none, none, none, none, none, none, none] [] S (some (.int r.1), r.2) := by
  unfold F_Plan_way_16 at h
  refine pE_jump 1 (pc' := 17) (ls' := [none, none, none, none, none, none, none, none, none]) (st' := [.int (-1)]) (fun _ => rfl) ?_
  cases h
  exact pE_ret rfl rfl rfl
def F_Plan_way_107 (N : Nat)  (x5 : Int32) (S : pm_S) : Option (Int32 × pm_S) :=
    some (x5, S)
set_option maxHeartbeats 4000000 in
set_option maxRecDepth 20000 in
theorem f_Plan_way_107 (sp : pm_I → List Value → pm_S → pm_O → Prop) (d N : Nat)  (x5 : Int32) (S : pm_S)  (r : (Int32 × pm_S)) (h : F_Plan_way_107 N  x5 S = some r) : pmE pG (pm_rel pG sp (d + 2)) mi_Plan_way 107 [none, none, none, none, none, some (.int x5), none, none, none] [] S (some (.int r.1), r.2) := by
  unfold F_Plan_way_107 at h
  refine pE_jump 1 (pc' := 109) (ls' := [none, none, none, none, none, some (.int x5), none, none, none]) (st' := [.int x5]) (fun _ => rfl) ?_
  cases h
  exact pE_ret rfl rfl rfl
def F_Plan_way_64 (N : Nat)   (S : pm_S) : Option (Int32 × pm_S) :=
    some ((-1), S)
set_option maxHeartbeats 4000000 in
set_option maxRecDepth 20000 in
theorem f_Plan_way_64 (sp : pm_I → List Value → pm_S → pm_O → Prop) (d N : Nat)   (S : pm_S)  (r : (Int32 × pm_S)) (h : F_Plan_way_64 N   S = some r) : pmE pG (pm_rel pG sp (d + 2)) mi_Plan_way 64 [none, none, none, none, none, none, none, none, none] [] S (some (.int r.1), r.2) := by
  unfold F_Plan_way_64 at h
  refine pE_jump 1 (pc' := 65) (ls' := [none, none, none, none, none, none, none, none, none]) (st' := [.int (-1)]) (fun _ => rfl) ?_
  cases h
  exact pE_ret rfl rfl rfl
def B_Plan_way_37 (N : Nat)  (rec37 : Int32 → Int32 → Int32 → Int32 → pm_S → Option (Int32 × pm_S)) (x0 : Nat) (x3 : Int32) (x4 : Int32) (x5 : Int32) (x6 : Int32) (S : pm_S) : Option (Int32 × pm_S) :=
    if 16 ≤ x6 then
    F_Plan_way_107 N x5 S
    else
    (if x3 = x4 then
    F_Plan_way_107 N x5 S
    else
    ((F_Plan_cableTo N S x0 x4).bind fun (v6, S5) =>
    if v6 = (-1) then
    F_Plan_way_64 N S5
    else
    ((F_Plan_lengthOf N S5 x0 v6).bind fun (v8, S7) =>
    (F_Plan_boxAt N S7 x0 v6 0).bind fun (v10, S9) =>
    rec37 (if x3 < v10 then x3 else v10) (if v10 < x3 then x3 else v10) (x5 + v8) (x6 + 1) S9)))
def F_Plan_way_37 (N : Nat)  (x0 : Nat) : Nat → Int32 → Int32 → Int32 → Int32 → pm_S → Option (Int32 × pm_S)
  | 0 => fun _ _ _ _ _ => none
  | n + 1 => fun x3 x4 x5 x6 S => B_Plan_way_37 N  (F_Plan_way_37 N  x0 n) x0 x3 x4 x5 x6 S
set_option maxHeartbeats 4000000 in
set_option maxRecDepth 20000 in
theorem f_Plan_way_37 (sp : pm_I → List Value → pm_S → pm_O → Prop) (d N : Nat)  (x0 : Nat)  : ∀ (n : Nat) (x3 : Int32) (x4 : Int32) (x5 : Int32) (x6 : Int32) (S : pm_S) (r : (Int32 × pm_S)), F_Plan_way_37 N  x0 n x3 x4 x5 x6 S = some r → pmE pG (pm_rel pG sp (d + 2)) mi_Plan_way 37 [some (.ref x0), none, none, some (.int x3), some (.int x4), some (.int x5), some (.int x6), none, none] [] S (some (.int r.1), r.2) := by
  intro n
  induction n with
  | zero =>
    intro x3 x4 x5 x6 S r h
    cases h
  | succ n ih =>
    intro x3 x4 x5 x6 S r h
    replace h : B_Plan_way_37 N  (F_Plan_way_37 N  x0 n) x0 x3 x4 x5 x6 S = some r := h
    have hrec37 := ih
    generalize F_Plan_way_37 N  x0 n = rec37 at h hrec37
    unfold B_Plan_way_37 at h
    refine pE_jump 2 (pc' := 41) (ls' := [some (.ref x0), none, none, some (.int x3), some (.int x4), some (.int x5), some (.int x6), none, none]) (st' := [.int 16, .int x6]) (fun _ => rfl) ?_
    refine pE_br (16 ≤ x6) rfl rfl (fun c13 => ?_) (fun c13 => ?_)
    · rw [if_pos c13] at h
      refine pE_weak [none, none, none, none, none, some (.int x5), none, none, none] ⟨rfl, trivial⟩ ?_
      exact f_Plan_way_107 sp d N x5 S _ h
    · rw [if_neg c13] at h
      refine pE_jump 2 (pc' := 47) (ls' := [some (.ref x0), none, none, some (.int x3), some (.int x4), some (.int x5), some (.int x6), none, none]) (st' := [.int x4, .int x3]) (fun _ => rfl) ?_
      refine pE_br (x3 = x4) rfl rfl (fun c12 => ?_) (fun c12 => ?_)
      · rw [if_pos c12] at h
        refine pE_weak [none, none, none, none, none, some (.int x5), none, none, none] ⟨rfl, trivial⟩ ?_
        exact f_Plan_way_107 sp d N x5 S _ h
      · rw [if_neg c12] at h
        refine pE_jump 2 (pc' := 53) (ls' := [some (.ref x0), none, none, some (.int x3), some (.int x4), some (.int x5), some (.int x6), none, none]) (st' := [.int x4, .ref x0]) (fun _ => rfl) ?_
        obtain ⟨⟨v6, S5⟩, hv6, h⟩ := obind h
        try dsimp only at h
        refine pE_iv (Bs := [.int x4]) (st := []) 1 rfl (Or.inl ⟨rfl, rfl⟩) rfl rfl (Nat.le_of_ble_eq_true rfl) (Nat.le_of_ble_eq_true rfl) (g_Plan_cableTo hv6) (f_Plan_cableTo sp d N S x0 x4 _ hv6) ?_
        refine pE_jump 3 (pc' := 61) (ls' := [some (.ref x0), none, none, some (.int x3), some (.int x4), some (.int x5), some (.int x6), some (.int v6), none]) (st' := [.int (-1), .int v6]) (fun _ => rfl) ?_
        refine pE_br (¬ v6 = (-1)) rfl rfl (fun c11 => ?_) (fun c11 => ?_)
        · rw [if_neg c11] at h
          refine pE_jump 3 (pc' := 71) (ls' := [some (.ref x0), none, none, some (.int x3), some (.int x4), some (.int x5), some (.int x6), some (.int v6), none]) (st' := [.int v6, .ref x0, .int x5]) (fun _ => rfl) ?_
          obtain ⟨⟨v8, S7⟩, hv8, h⟩ := obind h
          try dsimp only at h
          refine pE_iv (Bs := [.int v6]) (st := [.int x5]) 1 rfl (Or.inl ⟨rfl, rfl⟩) rfl rfl (Nat.le_of_ble_eq_true rfl) (Nat.le_of_ble_eq_true rfl) (g_Plan_lengthOf hv8) (f_Plan_lengthOf sp d N S5 x0 v6 _ hv8) ?_
          refine pE_jump 5 (pc' := 81) (ls' := [some (.ref x0), none, none, some (.int x3), some (.int x4), some (.int (x5 + v8)), some (.int x6), some (.int v6), none]) (st' := [.int 0, .int v6, .ref x0]) (fun _ => rfl) ?_
          obtain ⟨⟨v10, S9⟩, hv10, h⟩ := obind h
          try dsimp only at h
          refine pE_iv (Bs := [.int v6, .int 0]) (st := []) 1 rfl (Or.inl ⟨rfl, rfl⟩) rfl rfl (Nat.le_of_ble_eq_true rfl) (Nat.le_of_ble_eq_true rfl) (g_Plan_boxAt hv10) (f_Plan_boxAt sp d N S7 x0 v6 0 _ hv10) ?_
          refine pE_jump 3 (pc' := 89) (ls' := [some (.ref x0), none, none, some (.int x3), some (.int x4), some (.int (x5 + v8)), some (.int x6), some (.int v6), some (.int v10)]) (st' := [.int x3, .int v10]) (fun _ => rfl) ?_
          refine pE_mx 5 rfl rfl (Nat.le_of_ble_eq_true rfl) rfl ?_
          refine pE_jump 3 (pc' := 97) (ls' := [some (.ref x0), none, none, some (.int x3), some (.int (if v10 < x3 then x3 else v10)), some (.int (x5 + v8)), some (.int x6), some (.int v6), some (.int v10)]) (st' := [.int x3, .int v10]) (fun _ => rfl) ?_
          refine pE_mn rfl rfl (Nat.le_of_ble_eq_true rfl) ?_
          refine pE_jump 3 (pc' := 37) (ls' := [some (.ref x0), none, none, some (.int (if x3 < v10 then x3 else v10)), some (.int (if v10 < x3 then x3 else v10)), some (.int (x5 + v8)), some (.int (x6 + 1)), some (.int v6), some (.int v10)]) (st' := []) (fun _ => rfl) ?_
          refine pE_weak [some (.ref x0), none, none, some (.int (if x3 < v10 then x3 else v10)), some (.int (if v10 < x3 then x3 else v10)), some (.int (x5 + v8)), some (.int (x6 + 1)), none, none] ⟨rfl, ⟨rfl, ⟨rfl, ⟨rfl, ⟨rfl, trivial⟩⟩⟩⟩⟩ ?_
          exact hrec37 (if x3 < v10 then x3 else v10) (if v10 < x3 then x3 else v10) (x5 + v8) (x6 + 1) S9 _ h
        · have c11 := Decidable.not_not.mp c11
          rw [if_pos c11] at h
          refine pE_weak [none, none, none, none, none, none, none, none, none] trivial ?_
          exact f_Plan_way_64 sp d N S5 _ h
def F_Plan_way (N : Nat) (S : pm_S) (a : Nat) (p0 : Int32) (p1 : Int32) : Option (Int32 × pm_S) :=
    if rcv S a 4 = true then
    ((F_Plan_hasBox N S a p0).bind fun (v2, S1) =>
    if v2 = 0 then
    F_Plan_way_16 N S1
    else
    ((F_Plan_hasBox N S1 a p1).bind fun (v4, S3) =>
    if v4 = 0 then
    F_Plan_way_16 N S3
    else
    F_Plan_way_37 N a N (if p1 < p0 then p1 else p0) (if p0 < p1 then p1 else p0) 0 0 S3))
    else none
theorem g_Plan_way {N : Nat} {S : pm_S} {a : Nat} {p0 : Int32} {p1 : Int32} {r : (Int32 × pm_S)} (h : F_Plan_way N S a p0 p1 = some r) : rcv S a 4 = true := by
  unfold F_Plan_way at h
  by_cases c : rcv S a 4 = true
  · exact c
  · rw [if_neg c] at h; cases h
set_option maxHeartbeats 4000000 in
set_option maxRecDepth 20000 in
theorem f_Plan_way (sp : pm_I → List Value → pm_S → pm_O → Prop) (d N : Nat) (S : pm_S) (a : Nat) (p0 : Int32) (p1 : Int32) (r : (Int32 × pm_S)) (h : F_Plan_way N S a p0 p1 = some r) : pm_rel pG sp (d + 3) mi_Plan_way [.ref a, .int p0, .int p1] S (some (.int r.1), r.2) := by
  have hg := g_Plan_way h
  unfold F_Plan_way at h
  rw [if_pos hg] at h
  refine pE_rel (d := d + 2) ?_
  show pmE pG _ mi_Plan_way 0 [some (.ref a), some (.int p0), some (.int p1), none, none, none, none, none, none] [] S _
  refine pE_jump 2 (pc' := 2) (ls' := [some (.ref a), some (.int p0), some (.int p1), none, none, none, none, none, none]) (st' := [.int p0, .ref a]) (fun _ => rfl) ?_
  obtain ⟨⟨v2, S1⟩, hv2, h⟩ := obind h
  try dsimp only at h
  refine pE_iv (Bs := [.int p0]) (st := []) 1 rfl (Or.inl ⟨rfl, rfl⟩) rfl rfl (Nat.le_of_ble_eq_true rfl) (Nat.le_of_ble_eq_true rfl) (g_Plan_hasBox hv2) (f_Plan_hasBox sp (d + 1) N S a p0 _ hv2) ?_
  refine pE_br (v2 = 0) rfl rfl (fun c15 => ?_) (fun c15 => ?_)
  · rw [if_pos c15] at h
    refine pE_weak [none, none, none, none, none, none, none, none, none] trivial ?_
    exact f_Plan_way_16 sp d N S1 _ h
  · rw [if_neg c15] at h
    refine pE_jump 2 (pc' := 10) (ls' := [some (.ref a), some (.int p0), some (.int p1), none, none, none, none, none, none]) (st' := [.int p1, .ref a]) (fun _ => rfl) ?_
    obtain ⟨⟨v4, S3⟩, hv4, h⟩ := obind h
    try dsimp only at h
    refine pE_iv (Bs := [.int p1]) (st := []) 1 rfl (Or.inl ⟨rfl, rfl⟩) rfl rfl (Nat.le_of_ble_eq_true rfl) (Nat.le_of_ble_eq_true rfl) (g_Plan_hasBox hv4) (f_Plan_hasBox sp (d + 1) N S1 a p1 _ hv4) ?_
    refine pE_br (¬ v4 = 0) rfl rfl (fun c14 => ?_) (fun c14 => ?_)
    · rw [if_neg c14] at h
      refine pE_jump 2 (pc' := 20) (ls' := [some (.ref a), some (.int p0), some (.int p1), none, none, none, none, none, none]) (st' := [.int p1, .int p0]) (fun _ => rfl) ?_
      refine pE_mn rfl rfl (Nat.le_of_ble_eq_true rfl) ?_
      refine pE_jump 3 (pc' := 26) (ls' := [some (.ref a), some (.int p0), some (.int p1), some (.int (if p1 < p0 then p1 else p0)), none, none, none, none, none]) (st' := [.int p1, .int p0]) (fun _ => rfl) ?_
      refine pE_mx 5 rfl rfl (Nat.le_of_ble_eq_true rfl) rfl ?_
      refine pE_jump 5 (pc' := 37) (ls' := [some (.ref a), some (.int p0), some (.int p1), some (.int (if p1 < p0 then p1 else p0)), some (.int (if p0 < p1 then p1 else p0)), some (.int 0), some (.int 0), none, none]) (st' := []) (fun _ => rfl) ?_
      refine pE_weak [some (.ref a), none, none, some (.int (if p1 < p0 then p1 else p0)), some (.int (if p0 < p1 then p1 else p0)), some (.int 0), some (.int 0), none, none] ⟨rfl, ⟨rfl, ⟨rfl, ⟨rfl, ⟨rfl, trivial⟩⟩⟩⟩⟩ ?_
      exact f_Plan_way_37 sp d N a N (if p1 < p0 then p1 else p0) (if p0 < p1 then p1 else p0) 0 0 S3 _ h
    · have c14 := Decidable.not_not.mp c14
      rw [if_pos c14] at h
      refine pE_weak [none, none, none, none, none, none, none, none, none] trivial ?_
      exact f_Plan_way_16 sp d N S3 _ h
def F_Bench_bestTest_112 (N : Nat)  (x5 : Int32) (S : pm_S) : Option (Int32 × pm_S) :=
    some (x5, S)
set_option maxHeartbeats 4000000 in
set_option maxRecDepth 20000 in
theorem f_Bench_bestTest_112 (sp : pm_I → List Value → pm_S → pm_O → Prop) (d N : Nat)  (x5 : Int32) (S : pm_S)  (r : (Int32 × pm_S)) (h : F_Bench_bestTest_112 N  x5 S = some r) : pmE pG (pm_rel pG sp (d + 3)) mi_Bench_bestTest 112 [none, none, none, none, none, some (.int x5), none, none, none, none] [] S (some (.int r.1), r.2) := by
  unfold F_Bench_bestTest_112 at h
  refine pE_jump 1 (pc' := 114) (ls' := [none, none, none, none, none, some (.int x5), none, none, none, none]) (st' := [.int x5]) (fun _ => rfl) ?_
  cases h
  exact pE_ret rfl rfl rfl
def F_Bench_bestTest_106 (N : Nat) (rec12 : Int32 → Int32 → Int32 → Int32 → pm_S → Option (Int32 × pm_S)) (x0 : Nat) (x1 : Nat) (x2 : Int32) (x3 : Int32) (x4 : Int32) (x5 : Int32) (x6 : Int32) (x7 : Int32) (x8 : Int32) (S : pm_S) : Option (Int32 × pm_S) :=
    rec12 x5 x6 x7 (x8 + 1) S
set_option maxHeartbeats 4000000 in
set_option maxRecDepth 20000 in
theorem f_Bench_bestTest_106 (sp : pm_I → List Value → pm_S → pm_O → Prop) (d N : Nat) (rec12 : Int32 → Int32 → Int32 → Int32 → pm_S → Option (Int32 × pm_S)) (x0 : Nat) (x1 : Nat) (x2 : Int32) (x3 : Int32) (x4 : Int32) (x5 : Int32) (x6 : Int32) (x7 : Int32) (x8 : Int32) (S : pm_S) (hrec12 : ∀ (y1 : Int32) (y2 : Int32) (y3 : Int32) (y4 : Int32) (U : pm_S) (r : (Int32 × pm_S)), rec12 y1 y2 y3 y4 U = some r → pmE pG (pm_rel pG sp (d + 3)) mi_Bench_bestTest 12 [some (.ref x0), some (.ref x1), some (.int x2), some (.int x3), some (.int x4), some (.int y1), some (.int y2), some (.int y3), some (.int y4), none] [] U (some (.int r.1), r.2)) (r : (Int32 × pm_S)) (h : F_Bench_bestTest_106 N rec12 x0 x1 x2 x3 x4 x5 x6 x7 x8 S = some r) : pmE pG (pm_rel pG sp (d + 3)) mi_Bench_bestTest 106 [some (.ref x0), some (.ref x1), some (.int x2), some (.int x3), some (.int x4), some (.int x5), some (.int x6), some (.int x7), some (.int x8), none] [] S (some (.int r.1), r.2) := by
  unfold F_Bench_bestTest_106 at h
  refine pE_jump 2 (pc' := 12) (ls' := [some (.ref x0), some (.ref x1), some (.int x2), some (.int x3), some (.int x4), some (.int x5), some (.int x6), some (.int x7), some (.int (x8 + 1)), none]) (st' := []) (fun _ => rfl) ?_
  exact hrec12 x5 x6 x7 (x8 + 1) S _ h
def F_Bench_bestTest_92 (N : Nat) (rec12 : Int32 → Int32 → Int32 → Int32 → pm_S → Option (Int32 × pm_S)) (x0 : Nat) (x1 : Nat) (x2 : Int32) (x3 : Int32) (x4 : Int32) (x8 : Int32) (x9 : Int32) (S : pm_S) : Option (Int32 × pm_S) :=
    (oI S x0 0 4).bind fun v9 =>
    F_Bench_bestTest_106 N rec12 x0 x1 x2 x3 x4 x8 v9 x9 x8 S
set_option maxHeartbeats 4000000 in
set_option maxRecDepth 20000 in
theorem f_Bench_bestTest_92 (sp : pm_I → List Value → pm_S → pm_O → Prop) (d N : Nat) (rec12 : Int32 → Int32 → Int32 → Int32 → pm_S → Option (Int32 × pm_S)) (x0 : Nat) (x1 : Nat) (x2 : Int32) (x3 : Int32) (x4 : Int32) (x8 : Int32) (x9 : Int32) (S : pm_S) (hrec12 : ∀ (y1 : Int32) (y2 : Int32) (y3 : Int32) (y4 : Int32) (U : pm_S) (r : (Int32 × pm_S)), rec12 y1 y2 y3 y4 U = some r → pmE pG (pm_rel pG sp (d + 3)) mi_Bench_bestTest 12 [some (.ref x0), some (.ref x1), some (.int x2), some (.int x3), some (.int x4), some (.int y1), some (.int y2), some (.int y3), some (.int y4), none] [] U (some (.int r.1), r.2)) (r : (Int32 × pm_S)) (h : F_Bench_bestTest_92 N rec12 x0 x1 x2 x3 x4 x8 x9 S = some r) : pmE pG (pm_rel pG sp (d + 3)) mi_Bench_bestTest 92 [some (.ref x0), some (.ref x1), some (.int x2), some (.int x3), some (.int x4), none, none, none, some (.int x8), some (.int x9)] [] S (some (.int r.1), r.2) := by
  unfold F_Bench_bestTest_92 at h
  refine pE_jump 3 (pc' := 97) (ls' := [some (.ref x0), some (.ref x1), some (.int x2), some (.int x3), some (.int x4), some (.int x8), none, none, some (.int x8), some (.int x9)]) (st' := [.ref x0]) (fun _ => rfl) ?_
  obtain ⟨v9, hv9, h⟩ := obind h
  refine pE_gfI rfl rfl hv9 ?_
  refine pE_jump 3 (pc' := 106) (ls' := [some (.ref x0), some (.ref x1), some (.int x2), some (.int x3), some (.int x4), some (.int x8), some (.int v9), some (.int x9), some (.int x8), some (.int x9)]) (st' := []) (fun _ => rfl) ?_
  refine pE_weak [some (.ref x0), some (.ref x1), some (.int x2), some (.int x3), some (.int x4), some (.int x8), some (.int v9), some (.int x9), some (.int x8), none] ⟨rfl, ⟨rfl, ⟨rfl, ⟨rfl, ⟨rfl, ⟨rfl, ⟨rfl, ⟨rfl, ⟨rfl, trivial⟩⟩⟩⟩⟩⟩⟩⟩⟩ ?_
  exact f_Bench_bestTest_106 sp d N rec12 x0 x1 x2 x3 x4 x8 v9 x9 x8 S hrec12 _ h
def B_Bench_bestTest_12 (N : Nat)  (rec12 : Int32 → Int32 → Int32 → Int32 → pm_S → Option (Int32 × pm_S)) (x0 : Nat) (x1 : Nat) (x2 : Int32) (x3 : Int32) (x4 : Int32) (x5 : Int32) (x6 : Int32) (x7 : Int32) (x8 : Int32) (S : pm_S) : Option (Int32 × pm_S) :=
    (oR S x1 4 8).bind fun oq1 => match oq1 with
    | none => none
    | some q1 =>
    (F_Ledger_size N S q1).bind fun (v3, S2) =>
    if v3 ≤ x8 then
    F_Bench_bestTest_112 N x5 S2
    else
    ((F_Plan_boxOfTest N S2 x1 x8).bind fun (v5, S4) =>
    (F_Plan_way N S4 x1 x3 v5).bind fun (v7, S6) =>
    if v7 = (-1) then
    F_Bench_bestTest_106 N rec12 x0 x1 x2 x3 x4 x5 x6 x7 x8 S6
    else
    (if v7 ≤ x4 then
    ((F_Bench_partFits N S6 x0 x1 x8 x2).bind fun S8 =>
    if x5 = (-1) then
    F_Bench_bestTest_92 N rec12 x0 x1 x2 x3 x4 x8 v7 S8
    else
    ((oI S8 x0 0 4).bind fun v10 =>
    if v10 < x6 then
    F_Bench_bestTest_92 N rec12 x0 x1 x2 x3 x4 x8 v7 S8
    else
    ((oI S8 x0 0 4).bind fun v11 =>
    if v11 = x6 then
    (if x7 ≤ v7 then
    F_Bench_bestTest_106 N rec12 x0 x1 x2 x3 x4 x5 x6 x7 x8 S8
    else
    F_Bench_bestTest_92 N rec12 x0 x1 x2 x3 x4 x8 v7 S8)
    else
    F_Bench_bestTest_106 N rec12 x0 x1 x2 x3 x4 x5 x6 x7 x8 S8)))
    else
    F_Bench_bestTest_106 N rec12 x0 x1 x2 x3 x4 x5 x6 x7 x8 S6))
def F_Bench_bestTest_12 (N : Nat)  (x0 : Nat) (x1 : Nat) (x2 : Int32) (x3 : Int32) (x4 : Int32) : Nat → Int32 → Int32 → Int32 → Int32 → pm_S → Option (Int32 × pm_S)
  | 0 => fun _ _ _ _ _ => none
  | n + 1 => fun x5 x6 x7 x8 S => B_Bench_bestTest_12 N  (F_Bench_bestTest_12 N  x0 x1 x2 x3 x4 n) x0 x1 x2 x3 x4 x5 x6 x7 x8 S
set_option maxHeartbeats 4000000 in
set_option maxRecDepth 20000 in
theorem f_Bench_bestTest_12 (sp : pm_I → List Value → pm_S → pm_O → Prop) (d N : Nat)  (x0 : Nat) (x1 : Nat) (x2 : Int32) (x3 : Int32) (x4 : Int32)  : ∀ (n : Nat) (x5 : Int32) (x6 : Int32) (x7 : Int32) (x8 : Int32) (S : pm_S) (r : (Int32 × pm_S)), F_Bench_bestTest_12 N  x0 x1 x2 x3 x4 n x5 x6 x7 x8 S = some r → pmE pG (pm_rel pG sp (d + 3)) mi_Bench_bestTest 12 [some (.ref x0), some (.ref x1), some (.int x2), some (.int x3), some (.int x4), some (.int x5), some (.int x6), some (.int x7), some (.int x8), none] [] S (some (.int r.1), r.2) := by
  intro n
  induction n with
  | zero =>
    intro x5 x6 x7 x8 S r h
    cases h
  | succ n ih =>
    intro x5 x6 x7 x8 S r h
    replace h : B_Bench_bestTest_12 N  (F_Bench_bestTest_12 N  x0 x1 x2 x3 x4 n) x0 x1 x2 x3 x4 x5 x6 x7 x8 S = some r := h
    have hrec12 := ih
    generalize F_Bench_bestTest_12 N  x0 x1 x2 x3 x4 n = rec12 at h hrec12
    unfold B_Bench_bestTest_12 at h
    refine pE_jump 2 (pc' := 15) (ls' := [some (.ref x0), some (.ref x1), some (.int x2), some (.int x3), some (.int x4), some (.int x5), some (.int x6), some (.int x7), some (.int x8), none]) (st' := [.ref x1, .int x8]) (fun _ => rfl) ?_
    obtain ⟨oq1, hq1, h⟩ := obind h
    cases oq1 with
    | none => cases h
    | some q1 =>
      try dsimp only at h
      refine pE_gfS rfl rfl hq1 ?_
      obtain ⟨⟨v3, S2⟩, hv3, h⟩ := obind h
      try dsimp only at h
      refine pE_iv (Bs := []) (st := [.int x8]) 1 rfl (Or.inl ⟨rfl, rfl⟩) rfl rfl (Nat.le_of_ble_eq_true rfl) (Nat.le_of_ble_eq_true rfl) (g_Ledger_size hv3) (f_Ledger_size sp (d + 2) N S q1 _ hv3) ?_
      refine pE_br (v3 ≤ x8) rfl rfl (fun c18 => ?_) (fun c18 => ?_)
      · rw [if_pos c18] at h
        refine pE_weak [none, none, none, none, none, some (.int x5), none, none, none, none] ⟨rfl, trivial⟩ ?_
        exact f_Bench_bestTest_112 sp d N x5 S2 _ h
      · rw [if_neg c18] at h
        refine pE_jump 4 (pc' := 29) (ls' := [some (.ref x0), some (.ref x1), some (.int x2), some (.int x3), some (.int x4), some (.int x5), some (.int x6), some (.int x7), some (.int x8), none]) (st' := [.int x8, .ref x1, .int x3, .ref x1]) (fun _ => rfl) ?_
        obtain ⟨⟨v5, S4⟩, hv5, h⟩ := obind h
        try dsimp only at h
        refine pE_iv (Bs := [.int x8]) (st := [.int x3, .ref x1]) 1 rfl (Or.inl ⟨rfl, rfl⟩) rfl rfl (Nat.le_of_ble_eq_true rfl) (Nat.le_of_ble_eq_true rfl) (g_Plan_boxOfTest hv5) (f_Plan_boxOfTest sp d N S2 x1 x8 _ hv5) ?_
        obtain ⟨⟨v7, S6⟩, hv7, h⟩ := obind h
        try dsimp only at h
        refine pE_iv (Bs := [.int x3, .int v5]) (st := []) 1 rfl (Or.inl ⟨rfl, rfl⟩) rfl rfl (Nat.le_of_ble_eq_true rfl) (Nat.le_of_ble_eq_true rfl) (g_Plan_way hv7) (f_Plan_way sp d N S4 x1 x3 v5 _ hv7) ?_
        refine pE_jump 3 (pc' := 40) (ls' := [some (.ref x0), some (.ref x1), some (.int x2), some (.int x3), some (.int x4), some (.int x5), some (.int x6), some (.int x7), some (.int x8), some (.int v7)]) (st' := [.int (-1), .int v7]) (fun _ => rfl) ?_
        refine pE_br (v7 = (-1)) rfl rfl (fun c17 => ?_) (fun c17 => ?_)
        · rw [if_pos c17] at h
          refine pE_weak [some (.ref x0), some (.ref x1), some (.int x2), some (.int x3), some (.int x4), some (.int x5), some (.int x6), some (.int x7), some (.int x8), none] ⟨rfl, ⟨rfl, ⟨rfl, ⟨rfl, ⟨rfl, ⟨rfl, ⟨rfl, ⟨rfl, ⟨rfl, trivial⟩⟩⟩⟩⟩⟩⟩⟩⟩ ?_
          exact f_Bench_bestTest_106 sp d N rec12 x0 x1 x2 x3 x4 x5 x6 x7 x8 S6 hrec12 _ h
        · rw [if_neg c17] at h
          refine pE_jump 2 (pc' := 47) (ls' := [some (.ref x0), some (.ref x1), some (.int x2), some (.int x3), some (.int x4), some (.int x5), some (.int x6), some (.int x7), some (.int x8), some (.int v7)]) (st' := [.int x4, .int v7]) (fun _ => rfl) ?_
          refine pE_br (v7 ≤ x4) rfl rfl (fun c16 => ?_) (fun c16 => ?_)
          · rw [if_pos c16] at h
            refine pE_jump 4 (pc' := 58) (ls' := [some (.ref x0), some (.ref x1), some (.int x2), some (.int x3), some (.int x4), some (.int x5), some (.int x6), some (.int x7), some (.int x8), some (.int v7)]) (st' := [.int x2, .int x8, .ref x1, .ref x0]) (fun _ => rfl) ?_
            obtain ⟨S8, hS8, h⟩ := obind h
            refine pE_iv (Bs := [.ref x1, .int x8, .int x2]) (st := []) 1 rfl (Or.inl ⟨rfl, rfl⟩) rfl rfl (Nat.le_of_ble_eq_true rfl) (Nat.le_of_ble_eq_true rfl) (g_Bench_partFits hS8) (f_Bench_partFits sp d N S6 x0 x1 x8 x2 _ hS8) ?_
            refine pE_jump 2 (pc' := 64) (ls' := [some (.ref x0), some (.ref x1), some (.int x2), some (.int x3), some (.int x4), some (.int x5), some (.int x6), some (.int x7), some (.int x8), some (.int v7)]) (st' := [.int (-1), .int x5]) (fun _ => rfl) ?_
            refine pE_br (x5 = (-1)) rfl rfl (fun c15 => ?_) (fun c15 => ?_)
            · rw [if_pos c15] at h
              refine pE_weak [some (.ref x0), some (.ref x1), some (.int x2), some (.int x3), some (.int x4), none, none, none, some (.int x8), some (.int v7)] ⟨rfl, ⟨rfl, ⟨rfl, ⟨rfl, ⟨rfl, ⟨rfl, ⟨rfl, trivial⟩⟩⟩⟩⟩⟩⟩ ?_
              exact f_Bench_bestTest_92 sp d N rec12 x0 x1 x2 x3 x4 x8 v7 S8 hrec12 _ h
            · rw [if_neg c15] at h
              refine pE_jump 1 (pc' := 68) (ls' := [some (.ref x0), some (.ref x1), some (.int x2), some (.int x3), some (.int x4), some (.int x5), some (.int x6), some (.int x7), some (.int x8), some (.int v7)]) (st' := [.ref x0]) (fun _ => rfl) ?_
              obtain ⟨v10, hv10, h⟩ := obind h
              refine pE_gfI rfl rfl hv10 ?_
              refine pE_jump 1 (pc' := 73) (ls' := [some (.ref x0), some (.ref x1), some (.int x2), some (.int x3), some (.int x4), some (.int x5), some (.int x6), some (.int x7), some (.int x8), some (.int v7)]) (st' := [.int x6, .int v10]) (fun _ => rfl) ?_
              refine pE_br (v10 < x6) rfl rfl (fun c14 => ?_) (fun c14 => ?_)
              · rw [if_pos c14] at h
                refine pE_weak [some (.ref x0), some (.ref x1), some (.int x2), some (.int x3), some (.int x4), none, none, none, some (.int x8), some (.int v7)] ⟨rfl, ⟨rfl, ⟨rfl, ⟨rfl, ⟨rfl, ⟨rfl, ⟨rfl, trivial⟩⟩⟩⟩⟩⟩⟩ ?_
                exact f_Bench_bestTest_92 sp d N rec12 x0 x1 x2 x3 x4 x8 v7 S8 hrec12 _ h
              · rw [if_neg c14] at h
                refine pE_jump 1 (pc' := 77) (ls' := [some (.ref x0), some (.ref x1), some (.int x2), some (.int x3), some (.int x4), some (.int x5), some (.int x6), some (.int x7), some (.int x8), some (.int v7)]) (st' := [.ref x0]) (fun _ => rfl) ?_
                obtain ⟨v11, hv11, h⟩ := obind h
                refine pE_gfI rfl rfl hv11 ?_
                refine pE_jump 1 (pc' := 82) (ls' := [some (.ref x0), some (.ref x1), some (.int x2), some (.int x3), some (.int x4), some (.int x5), some (.int x6), some (.int x7), some (.int x8), some (.int v7)]) (st' := [.int x6, .int v11]) (fun _ => rfl) ?_
                refine pE_br (¬ v11 = x6) rfl rfl (fun c13 => ?_) (fun c13 => ?_)
                · rw [if_neg c13] at h
                  refine pE_weak [some (.ref x0), some (.ref x1), some (.int x2), some (.int x3), some (.int x4), some (.int x5), some (.int x6), some (.int x7), some (.int x8), none] ⟨rfl, ⟨rfl, ⟨rfl, ⟨rfl, ⟨rfl, ⟨rfl, ⟨rfl, ⟨rfl, ⟨rfl, trivial⟩⟩⟩⟩⟩⟩⟩⟩⟩ ?_
                  exact f_Bench_bestTest_106 sp d N rec12 x0 x1 x2 x3 x4 x5 x6 x7 x8 S8 hrec12 _ h
                · have c13 := Decidable.not_not.mp c13
                  rw [if_pos c13] at h
                  refine pE_jump 2 (pc' := 89) (ls' := [some (.ref x0), some (.ref x1), some (.int x2), some (.int x3), some (.int x4), some (.int x5), some (.int x6), some (.int x7), some (.int x8), some (.int v7)]) (st' := [.int x7, .int v7]) (fun _ => rfl) ?_
                  refine pE_br (x7 ≤ v7) rfl rfl (fun c12 => ?_) (fun c12 => ?_)
                  · rw [if_pos c12] at h
                    refine pE_weak [some (.ref x0), some (.ref x1), some (.int x2), some (.int x3), some (.int x4), some (.int x5), some (.int x6), some (.int x7), some (.int x8), none] ⟨rfl, ⟨rfl, ⟨rfl, ⟨rfl, ⟨rfl, ⟨rfl, ⟨rfl, ⟨rfl, ⟨rfl, trivial⟩⟩⟩⟩⟩⟩⟩⟩⟩ ?_
                    exact f_Bench_bestTest_106 sp d N rec12 x0 x1 x2 x3 x4 x5 x6 x7 x8 S8 hrec12 _ h
                  · rw [if_neg c12] at h
                    refine pE_weak [some (.ref x0), some (.ref x1), some (.int x2), some (.int x3), some (.int x4), none, none, none, some (.int x8), some (.int v7)] ⟨rfl, ⟨rfl, ⟨rfl, ⟨rfl, ⟨rfl, ⟨rfl, ⟨rfl, trivial⟩⟩⟩⟩⟩⟩⟩ ?_
                    exact f_Bench_bestTest_92 sp d N rec12 x0 x1 x2 x3 x4 x8 v7 S8 hrec12 _ h
          · rw [if_neg c16] at h
            refine pE_jump 1 (pc' := 106) (ls' := [some (.ref x0), some (.ref x1), some (.int x2), some (.int x3), some (.int x4), some (.int x5), some (.int x6), some (.int x7), some (.int x8), some (.int v7)]) (st' := []) (fun _ => rfl) ?_
            refine pE_weak [some (.ref x0), some (.ref x1), some (.int x2), some (.int x3), some (.int x4), some (.int x5), some (.int x6), some (.int x7), some (.int x8), none] ⟨rfl, ⟨rfl, ⟨rfl, ⟨rfl, ⟨rfl, ⟨rfl, ⟨rfl, ⟨rfl, ⟨rfl, trivial⟩⟩⟩⟩⟩⟩⟩⟩⟩ ?_
            exact f_Bench_bestTest_106 sp d N rec12 x0 x1 x2 x3 x4 x5 x6 x7 x8 S6 hrec12 _ h
def F_Bench_bestTest (N : Nat) (S : pm_S) (a : Nat) (p0 : Nat) (p1 : Int32) (p2 : Int32) (p3 : Int32) : Option (Int32 × pm_S) :=
    if rcv S a 0 = true then
    (F_Bench_bestTest_12 N a p0 p1 p2 p3 N (-1) 0 0 0 S)
    else none
theorem g_Bench_bestTest {N : Nat} {S : pm_S} {a : Nat} {p0 : Nat} {p1 : Int32} {p2 : Int32} {p3 : Int32} {r : (Int32 × pm_S)} (h : F_Bench_bestTest N S a p0 p1 p2 p3 = some r) : rcv S a 0 = true := by
  unfold F_Bench_bestTest at h
  by_cases c : rcv S a 0 = true
  · exact c
  · rw [if_neg c] at h; cases h
set_option maxHeartbeats 4000000 in
set_option maxRecDepth 20000 in
theorem f_Bench_bestTest (sp : pm_I → List Value → pm_S → pm_O → Prop) (d N : Nat) (S : pm_S) (a : Nat) (p0 : Nat) (p1 : Int32) (p2 : Int32) (p3 : Int32) (r : (Int32 × pm_S)) (h : F_Bench_bestTest N S a p0 p1 p2 p3 = some r) : pm_rel pG sp (d + 4) mi_Bench_bestTest [.ref a, .ref p0, .int p1, .int p2, .int p3] S (some (.int r.1), r.2) := by
  have hg := g_Bench_bestTest h
  unfold F_Bench_bestTest at h
  rw [if_pos hg] at h
  refine pE_rel (d := d + 3) ?_
  show pmE pG _ mi_Bench_bestTest 0 [some (.ref a), some (.ref p0), some (.int p1), some (.int p2), some (.int p3), none, none, none, none, none] [] S _
  refine pE_jump 8 (pc' := 12) (ls' := [some (.ref a), some (.ref p0), some (.int p1), some (.int p2), some (.int p3), some (.int (-1)), some (.int 0), some (.int 0), some (.int 0), none]) (st' := []) (fun _ => rfl) ?_
  exact f_Bench_bestTest_12 sp d N a p0 p1 p2 p3 N (-1) 0 0 0 S _ h
def F_BP_next_26 (N : Nat)   (S : pm_S) : Option (Int32 × pm_S) :=
    some ((-1), S)
set_option maxHeartbeats 4000000 in
set_option maxRecDepth 20000 in
theorem f_BP_next_26 (sp : pm_I → List Value → pm_S → pm_O → Prop) (d N : Nat)   (S : pm_S)  (r : (Int32 × pm_S)) (h : F_BP_next_26 N   S = some r) : pmE pG (pm_rel pG sp (d + 7)) mi_BP_next 26 [none, none, none, none, none, none] [] S (some (.int r.1), r.2) := by
  unfold F_BP_next_26 at h
  refine pE_jump 1 (pc' := 27) (ls' := [none, none, none, none, none, none]) (st' := [.int (-1)]) (fun _ => rfl) ?_
  cases h
  exact pE_ret rfl rfl rfl
def F_BP_next (N : Nat) (S : pm_S) (a : Nat) (p0 : Int32) (p1 : Int32) (p2 : Int32) (p3 : Int32) : Option (Int32 × pm_S) :=
    if rcv S a 10 = true then
    ((F_BP_planAt N S a p0).bind fun (oq2, S1) => match oq2 with
    | none => F_BP_next_26 N S1
    | some q2 =>
    (F_Plan_hasBox N S1 q2 p2).bind fun (v4, S3) =>
    if v4 = 0 then
    F_BP_next_26 N S3
    else
    (if 0 ≤ p3 then
    ((oR S3 a 10 3).bind fun oq5 => match oq5 with
    | none => none
    | some q5 =>
    (F_Bench_findFits N S3 q5 q2).bind fun S6 =>
    (oR S6 q2 4 11).bind fun oq7 => match oq7 with
    | none => none
    | some q7 =>
    (oI S6 q7 5 3).bind fun v8 =>
    if v8 = 0 then
    some ((-1), S6)
    else
    ((oR S6 a 10 3).bind fun oq9 => match oq9 with
    | none => none
    | some q9 =>
    (oR S6 a 10 3).bind fun oq13 => match oq13 with
    | none => none
    | some q13 =>
    (F_Bench_columnsOfAll N S6 q13 q2 p1).bind fun (v15, S14) =>
    (F_Bench_fill N S14 q9 q2 v15).bind fun S16 =>
    (oR S16 a 10 3).bind fun oq17 => match oq17 with
    | none => none
    | some q17 =>
    (F_Bench_bestTest N S16 q17 q2 p1 p2 p3).bind fun (v19, S18) =>
    some (v19, S18)))
    else
    F_BP_next_26 N S3))
    else none
theorem g_BP_next {N : Nat} {S : pm_S} {a : Nat} {p0 : Int32} {p1 : Int32} {p2 : Int32} {p3 : Int32} {r : (Int32 × pm_S)} (h : F_BP_next N S a p0 p1 p2 p3 = some r) : rcv S a 10 = true := by
  unfold F_BP_next at h
  by_cases c : rcv S a 10 = true
  · exact c
  · rw [if_neg c] at h; cases h
set_option maxHeartbeats 4000000 in
set_option maxRecDepth 20000 in
theorem f_BP_next (sp : pm_I → List Value → pm_S → pm_O → Prop) (d N : Nat) (S : pm_S) (a : Nat) (p0 : Int32) (p1 : Int32) (p2 : Int32) (p3 : Int32) (r : (Int32 × pm_S)) (h : F_BP_next N S a p0 p1 p2 p3 = some r) : pm_rel pG sp (d + 8) mi_BP_next [.ref a, .int p0, .int p1, .int p2, .int p3] S (some (.int r.1), r.2) := by
  have hg := g_BP_next h
  unfold F_BP_next at h
  rw [if_pos hg] at h
  refine pE_rel (d := d + 7) ?_
  show pmE pG _ mi_BP_next 0 [some (.ref a), some (.int p0), some (.int p1), some (.int p2), some (.int p3), none] [] S _
  refine pE_jump 2 (pc' := 2) (ls' := [some (.ref a), some (.int p0), some (.int p1), some (.int p2), some (.int p3), none]) (st' := [.int p0, .ref a]) (fun _ => rfl) ?_
  obtain ⟨⟨oq2, S1⟩, hq2, h⟩ := obind h
  try dsimp only at h
  cases oq2 with
  | none =>
    try dsimp only at h
    refine pE_iv (Bs := [.int p0]) (st := []) 1 rfl (Or.inl ⟨rfl, rfl⟩) rfl rfl (Nat.le_of_ble_eq_true rfl) (Nat.le_of_ble_eq_true rfl) (g_BP_planAt hq2) (f_BP_planAt sp (d + 6) N S a p0 _ hq2) ?_
    refine pE_jump 3 (pc' := 26) (ls' := [some (.ref a), some (.int p0), some (.int p1), some (.int p2), some (.int p3), some (.null)]) (st' := []) (fun _ => rfl) ?_
    refine pE_weak [none, none, none, none, none, none] trivial ?_
    exact f_BP_next_26 sp d N S1 _ h
  | some q2 =>
    try dsimp only at h
    refine pE_iv (Bs := [.int p0]) (st := []) 1 rfl (Or.inl ⟨rfl, rfl⟩) rfl rfl (Nat.le_of_ble_eq_true rfl) (Nat.le_of_ble_eq_true rfl) (g_BP_planAt hq2) (f_BP_planAt sp (d + 6) N S a p0 _ hq2) ?_
    refine pE_jump 5 (pc' := 15) (ls' := [some (.ref a), some (.int p0), some (.int p1), some (.int p2), some (.int p3), some (.ref q2)]) (st' := [.int p2, .ref q2]) (fun _ => rfl) ?_
    obtain ⟨⟨v4, S3⟩, hv4, h⟩ := obind h
    try dsimp only at h
    refine pE_iv (Bs := [.int p2]) (st := []) 1 rfl (Or.inl ⟨rfl, rfl⟩) rfl rfl (Nat.le_of_ble_eq_true rfl) (Nat.le_of_ble_eq_true rfl) (g_Plan_hasBox hv4) (f_Plan_hasBox sp (d + 6) N S1 q2 p2 _ hv4) ?_
    refine pE_br (v4 = 0) rfl rfl (fun c22 => ?_) (fun c22 => ?_)
    · rw [if_pos c22] at h
      refine pE_weak [none, none, none, none, none, none] trivial ?_
      exact f_BP_next_26 sp d N S3 _ h
    · rw [if_neg c22] at h
      refine pE_jump 1 (pc' := 23) (ls' := [some (.ref a), some (.int p0), some (.int p1), some (.int p2), some (.int p3), some (.ref q2)]) (st' := [.int p3]) (fun _ => rfl) ?_
      refine pE_br (0 ≤ p3) rfl rfl (fun c21 => ?_) (fun c21 => ?_)
      · rw [if_pos c21] at h
        refine pE_jump 1 (pc' := 29) (ls' := [some (.ref a), some (.int p0), some (.int p1), some (.int p2), some (.int p3), some (.ref q2)]) (st' := [.ref a]) (fun _ => rfl) ?_
        obtain ⟨oq5, hq5, h⟩ := obind h
        cases oq5 with
        | none => cases h
        | some q5 =>
          try dsimp only at h
          refine pE_gfS rfl rfl hq5 ?_
          refine pE_jump 1 (pc' := 34) (ls' := [some (.ref a), some (.int p0), some (.int p1), some (.int p2), some (.int p3), some (.ref q2)]) (st' := [.ref q2, .ref q5]) (fun _ => rfl) ?_
          obtain ⟨S6, hS6, h⟩ := obind h
          refine pE_iv (Bs := [.ref q2]) (st := []) 1 rfl (Or.inl ⟨rfl, rfl⟩) rfl rfl (Nat.le_of_ble_eq_true rfl) (Nat.le_of_ble_eq_true rfl) (g_Bench_findFits hS6) (f_Bench_findFits sp d N S3 q5 q2 _ hS6) ?_
          refine pE_jump 1 (pc' := 39) (ls' := [some (.ref a), some (.int p0), some (.int p1), some (.int p2), some (.int p3), some (.ref q2)]) (st' := [.ref q2]) (fun _ => rfl) ?_
          obtain ⟨oq7, hq7, h⟩ := obind h
          cases oq7 with
          | none => cases h
          | some q7 =>
            try dsimp only at h
            refine pE_gfS rfl rfl hq7 ?_
            obtain ⟨v8, hv8, h⟩ := obind h
            refine pE_gfI rfl rfl hv8 ?_
            refine pE_br (¬ v8 = 0) rfl rfl (fun c20 => ?_) (fun c20 => ?_)
            · rw [if_neg c20] at h
              refine pE_jump 1 (pc' := 51) (ls' := [some (.ref a), some (.int p0), some (.int p1), some (.int p2), some (.int p3), some (.ref q2)]) (st' := [.ref a]) (fun _ => rfl) ?_
              obtain ⟨oq9, hq9, h⟩ := obind h
              cases oq9 with
              | none => cases h
              | some q9 =>
                try dsimp only at h
                refine pE_gfS rfl rfl hq9 ?_
                refine pE_jump 2 (pc' := 57) (ls' := [some (.ref a), some (.int p0), some (.int p1), some (.int p2), some (.int p3), some (.ref q2)]) (st' := [.ref a, .ref q2, .ref q9]) (fun _ => rfl) ?_
                obtain ⟨oq13, hq13, h⟩ := obind h
                cases oq13 with
                | none => cases h
                | some q13 =>
                  try dsimp only at h
                  refine pE_gfS rfl rfl hq13 ?_
                  refine pE_jump 2 (pc' := 63) (ls' := [some (.ref a), some (.int p0), some (.int p1), some (.int p2), some (.int p3), some (.ref q2)]) (st' := [.int p1, .ref q2, .ref q13, .ref q2, .ref q9]) (fun _ => rfl) ?_
                  obtain ⟨⟨v15, S14⟩, hv15, h⟩ := obind h
                  try dsimp only at h
                  refine pE_iv (Bs := [.ref q2, .int p1]) (st := [.ref q2, .ref q9]) 1 rfl (Or.inl ⟨rfl, rfl⟩) rfl rfl (Nat.le_of_ble_eq_true rfl) (Nat.le_of_ble_eq_true rfl) (g_Bench_columnsOfAll hv15) (f_Bench_columnsOfAll sp (d + 5) N S6 q13 q2 p1 _ hv15) ?_
                  obtain ⟨S16, hS16, h⟩ := obind h
                  refine pE_iv (Bs := [.ref q2, .int v15]) (st := []) 1 rfl (Or.inl ⟨rfl, rfl⟩) rfl rfl (Nat.le_of_ble_eq_true rfl) (Nat.le_of_ble_eq_true rfl) (g_Bench_fill hS16) (f_Bench_fill sp (d + 1) N S14 q9 q2 v15 _ hS16) ?_
                  refine pE_jump 1 (pc' := 70) (ls' := [some (.ref a), some (.int p0), some (.int p1), some (.int p2), some (.int p3), some (.ref q2)]) (st' := [.ref a]) (fun _ => rfl) ?_
                  obtain ⟨oq17, hq17, h⟩ := obind h
                  cases oq17 with
                  | none => cases h
                  | some q17 =>
                    try dsimp only at h
                    refine pE_gfS rfl rfl hq17 ?_
                    refine pE_jump 4 (pc' := 79) (ls' := [some (.ref a), some (.int p0), some (.int p1), some (.int p2), some (.int p3), some (.ref q2)]) (st' := [.int p3, .int p2, .int p1, .ref q2, .ref q17]) (fun _ => rfl) ?_
                    obtain ⟨⟨v19, S18⟩, hv19, h⟩ := obind h
                    try dsimp only at h
                    refine pE_iv (Bs := [.ref q2, .int p1, .int p2, .int p3]) (st := []) 1 rfl (Or.inl ⟨rfl, rfl⟩) rfl rfl (Nat.le_of_ble_eq_true rfl) (Nat.le_of_ble_eq_true rfl) (g_Bench_bestTest hv19) (f_Bench_bestTest sp (d + 3) N S16 q17 q2 p1 p2 p3 _ hv19) ?_
                    cases h
                    exact pE_ret rfl rfl rfl
            · have c20 := Decidable.not_not.mp c20
              rw [if_pos c20] at h
              refine pE_jump 1 (pc' := 49) (ls' := [some (.ref a), some (.int p0), some (.int p1), some (.int p2), some (.int p3), some (.ref q2)]) (st' := [.int (-1)]) (fun _ => rfl) ?_
              cases h
              exact pE_ret rfl rfl rfl
      · rw [if_neg c21] at h
        refine pE_weak [none, none, none, none, none, none] trivial ?_
        exact f_BP_next_26 sp d N S3 _ h
def F_BP_walk (N : Nat) (S : pm_S) (a : Nat) (p0 : Int32) (p1 : Int32) (p2 : Int32) : Option (Int32 × pm_S) :=
    if rcv S a 10 = true then
    ((F_BP_planAt N S a p0).bind fun (oq2, S1) => match oq2 with
    | none => some ((-1), S1)
    | some q2 =>
    (F_Plan_way N S1 q2 p1 p2).bind fun (v4, S3) =>
    some (v4, S3))
    else none
theorem g_BP_walk {N : Nat} {S : pm_S} {a : Nat} {p0 : Int32} {p1 : Int32} {p2 : Int32} {r : (Int32 × pm_S)} (h : F_BP_walk N S a p0 p1 p2 = some r) : rcv S a 10 = true := by
  unfold F_BP_walk at h
  by_cases c : rcv S a 10 = true
  · exact c
  · rw [if_neg c] at h; cases h
set_option maxHeartbeats 4000000 in
set_option maxRecDepth 20000 in
theorem f_BP_walk (sp : pm_I → List Value → pm_S → pm_O → Prop) (d N : Nat) (S : pm_S) (a : Nat) (p0 : Int32) (p1 : Int32) (p2 : Int32) (r : (Int32 × pm_S)) (h : F_BP_walk N S a p0 p1 p2 = some r) : pm_rel pG sp (d + 4) mi_BP_walk [.ref a, .int p0, .int p1, .int p2] S (some (.int r.1), r.2) := by
  have hg := g_BP_walk h
  unfold F_BP_walk at h
  rw [if_pos hg] at h
  refine pE_rel (d := d + 3) ?_
  show pmE pG _ mi_BP_walk 0 [some (.ref a), some (.int p0), some (.int p1), some (.int p2), none] [] S _
  refine pE_jump 2 (pc' := 2) (ls' := [some (.ref a), some (.int p0), some (.int p1), some (.int p2), none]) (st' := [.int p0, .ref a]) (fun _ => rfl) ?_
  obtain ⟨⟨oq2, S1⟩, hq2, h⟩ := obind h
  try dsimp only at h
  cases oq2 with
  | none =>
    try dsimp only at h
    refine pE_iv (Bs := [.int p0]) (st := []) 1 rfl (Or.inl ⟨rfl, rfl⟩) rfl rfl (Nat.le_of_ble_eq_true rfl) (Nat.le_of_ble_eq_true rfl) (g_BP_planAt hq2) (f_BP_planAt sp (d + 2) N S a p0 _ hq2) ?_
    refine pE_jump 4 (pc' := 13) (ls' := [some (.ref a), some (.int p0), some (.int p1), some (.int p2), some (.null)]) (st' := [.int (-1)]) (fun _ => rfl) ?_
    cases h
    exact pE_ret rfl rfl rfl
  | some q2 =>
    try dsimp only at h
    refine pE_iv (Bs := [.int p0]) (st := []) 1 rfl (Or.inl ⟨rfl, rfl⟩) rfl rfl (Nat.le_of_ble_eq_true rfl) (Nat.le_of_ble_eq_true rfl) (g_BP_planAt hq2) (f_BP_planAt sp (d + 2) N S a p0 _ hq2) ?_
    refine pE_jump 6 (pc' := 18) (ls' := [some (.ref a), some (.int p0), some (.int p1), some (.int p2), some (.ref q2)]) (st' := [.int p2, .int p1, .ref q2]) (fun _ => rfl) ?_
    obtain ⟨⟨v4, S3⟩, hv4, h⟩ := obind h
    try dsimp only at h
    refine pE_iv (Bs := [.int p1, .int p2]) (st := []) 1 rfl (Or.inl ⟨rfl, rfl⟩) rfl rfl (Nat.le_of_ble_eq_true rfl) (Nat.le_of_ble_eq_true rfl) (g_Plan_way hv4) (f_Plan_way sp d N S1 q2 p1 p2 _ hv4) ?_
    cases h
    exact pE_ret rfl rfl rfl
def F_Bench_explains_123 (N : Nat)   (S : pm_S) : Option (Int32 × pm_S) :=
    some (1, S)
set_option maxHeartbeats 4000000 in
set_option maxRecDepth 20000 in
theorem f_Bench_explains_123 (sp : pm_I → List Value → pm_S → pm_O → Prop) (d N : Nat)   (S : pm_S)  (r : (Int32 × pm_S)) (h : F_Bench_explains_123 N   S = some r) : pmE pG (pm_rel pG sp (d + 5)) mi_Bench_explains 123 [none, none, none, none, none, none, none, none] [] S (some (.int r.1), r.2) := by
  unfold F_Bench_explains_123 at h
  refine pE_jump 1 (pc' := 124) (ls' := [none, none, none, none, none, none, none, none]) (st' := [.int 1]) (fun _ => rfl) ?_
  cases h
  exact pE_ret rfl rfl rfl
def F_Bench_explains_117 (N : Nat) (rec21 : Int32 → pm_S → Option (Int32 × pm_S)) (x0 : Nat) (x1 : Nat) (x4 : Int32) (x5 : Int32) (S : pm_S) : Option (Int32 × pm_S) :=
    rec21 (x5 + 1) S
set_option maxHeartbeats 4000000 in
set_option maxRecDepth 20000 in
theorem f_Bench_explains_117 (sp : pm_I → List Value → pm_S → pm_O → Prop) (d N : Nat) (rec21 : Int32 → pm_S → Option (Int32 × pm_S)) (x0 : Nat) (x1 : Nat) (x4 : Int32) (x5 : Int32) (S : pm_S) (hrec21 : ∀ (y1 : Int32) (U : pm_S) (r : (Int32 × pm_S)), rec21 y1 U = some r → pmE pG (pm_rel pG sp (d + 5)) mi_Bench_explains 21 [some (.ref x0), some (.ref x1), none, none, some (.int x4), some (.int y1), none, none] [] U (some (.int r.1), r.2)) (r : (Int32 × pm_S)) (h : F_Bench_explains_117 N rec21 x0 x1 x4 x5 S = some r) : pmE pG (pm_rel pG sp (d + 5)) mi_Bench_explains 117 [some (.ref x0), some (.ref x1), none, none, some (.int x4), some (.int x5), none, none] [] S (some (.int r.1), r.2) := by
  unfold F_Bench_explains_117 at h
  refine pE_jump 2 (pc' := 21) (ls' := [some (.ref x0), some (.ref x1), none, none, some (.int x4), some (.int (x5 + 1)), none, none]) (st' := []) (fun _ => rfl) ?_
  exact hrec21 (x5 + 1) S _ h
def F_Bench_explains_115 (N : Nat)   (S : pm_S) : Option (Int32 × pm_S) :=
    some (0, S)
set_option maxHeartbeats 4000000 in
set_option maxRecDepth 20000 in
theorem f_Bench_explains_115 (sp : pm_I → List Value → pm_S → pm_O → Prop) (d N : Nat)   (S : pm_S)  (r : (Int32 × pm_S)) (h : F_Bench_explains_115 N   S = some r) : pmE pG (pm_rel pG sp (d + 5)) mi_Bench_explains 115 [none, none, none, none, none, none, none, none] [] S (some (.int r.1), r.2) := by
  unfold F_Bench_explains_115 at h
  refine pE_jump 1 (pc' := 116) (ls' := [none, none, none, none, none, none, none, none]) (st' := [.int 0]) (fun _ => rfl) ?_
  cases h
  exact pE_ret rfl rfl rfl
def F_Bench_explains_77 (N : Nat) (rec21 : Int32 → pm_S → Option (Int32 × pm_S)) (x0 : Nat) (x1 : Nat) (x4 : Int32) (x5 : Int32) (x6 : Int32) (t0 : Int32) (S : pm_S) : Option (Int32 × pm_S) :=
    if t0 = 0 then
    F_Bench_explains_117 N rec21 x0 x1 x4 x5 S
    else
    ((oR S x1 4 9).bind fun oq17 => match oq17 with
    | none => none
    | some q17 =>
    (F_Ledger_at N S q17 x5 2).bind fun (v19, S18) =>
    (F_Bench_tell N S18 x0 x1 x6 0).bind fun (v21, S20) =>
    if (if 0 ≤ ((v19 / 4) - (v21 / 4)) then ((v19 / 4) - (v21 / 4)) else 0 - ((v19 / 4) - (v21 / 4))) ≤ x4 then
    F_Bench_explains_117 N rec21 x0 x1 x4 x5 S20
    else
    F_Bench_explains_115 N S20)
set_option maxHeartbeats 4000000 in
set_option maxRecDepth 20000 in
theorem f_Bench_explains_77 (sp : pm_I → List Value → pm_S → pm_O → Prop) (d N : Nat) (rec21 : Int32 → pm_S → Option (Int32 × pm_S)) (x0 : Nat) (x1 : Nat) (x4 : Int32) (x5 : Int32) (x6 : Int32) (t0 : Int32) (S : pm_S) (hrec21 : ∀ (y1 : Int32) (U : pm_S) (r : (Int32 × pm_S)), rec21 y1 U = some r → pmE pG (pm_rel pG sp (d + 5)) mi_Bench_explains 21 [some (.ref x0), some (.ref x1), none, none, some (.int x4), some (.int y1), none, none] [] U (some (.int r.1), r.2)) (r : (Int32 × pm_S)) (h : F_Bench_explains_77 N rec21 x0 x1 x4 x5 x6 t0 S = some r) : pmE pG (pm_rel pG sp (d + 5)) mi_Bench_explains 77 [some (.ref x0), some (.ref x1), none, none, some (.int x4), some (.int x5), some (.int x6), none] [.int t0] S (some (.int r.1), r.2) := by
  unfold F_Bench_explains_77 at h
  refine pE_jump 2 (pc' := 81) (ls' := [some (.ref x0), some (.ref x1), none, none, some (.int x4), some (.int x5), some (.int x6), some (.int t0)]) (st' := [.int t0]) (fun _ => rfl) ?_
  refine pE_br (t0 = 0) rfl rfl (fun c23 => ?_) (fun c23 => ?_)
  · rw [if_pos c23] at h
    refine pE_weak [some (.ref x0), some (.ref x1), none, none, some (.int x4), some (.int x5), none, none] ⟨rfl, ⟨rfl, ⟨rfl, ⟨rfl, trivial⟩⟩⟩⟩ ?_
    exact f_Bench_explains_117 sp d N rec21 x0 x1 x4 x5 S hrec21 _ h
  · rw [if_neg c23] at h
    refine pE_jump 1 (pc' := 85) (ls' := [some (.ref x0), some (.ref x1), none, none, some (.int x4), some (.int x5), some (.int x6), some (.int t0)]) (st' := [.ref x1]) (fun _ => rfl) ?_
    obtain ⟨oq17, hq17, h⟩ := obind h
    cases oq17 with
    | none => cases h
    | some q17 =>
      try dsimp only at h
      refine pE_gfS rfl rfl hq17 ?_
      refine pE_jump 2 (pc' := 91) (ls' := [some (.ref x0), some (.ref x1), none, none, some (.int x4), some (.int x5), some (.int x6), some (.int t0)]) (st' := [.int 2, .int x5, .ref q17]) (fun _ => rfl) ?_
      obtain ⟨⟨v19, S18⟩, hv19, h⟩ := obind h
      try dsimp only at h
      refine pE_iv (Bs := [.int x5, .int 2]) (st := []) 1 rfl (Or.inl ⟨rfl, rfl⟩) rfl rfl (Nat.le_of_ble_eq_true rfl) (Nat.le_of_ble_eq_true rfl) (g_Ledger_at hv19) (f_Ledger_at sp (d + 4) N S q17 x5 2 _ hv19) ?_
      refine pE_jump 1 (pc' := 95) (ls' := [some (.ref x0), some (.ref x1), none, none, some (.int x4), some (.int x5), some (.int x6), some (.int t0)]) (st' := [.int 4, .int v19]) (fun _ => rfl) ?_
      refine pE_jump 1 (pc' := 96) (ls' := [some (.ref x0), some (.ref x1), none, none, some (.int x4), some (.int x5), some (.int x6), some (.int t0)]) (st' := [.int (v19 / 4)]) (fun _ => rfl) ?_
      refine pE_jump 4 (pc' := 101) (ls' := [some (.ref x0), some (.ref x1), none, none, some (.int x4), some (.int x5), some (.int x6), some (.int t0)]) (st' := [.int 0, .int x6, .ref x1, .ref x0, .int (v19 / 4)]) (fun _ => rfl) ?_
      obtain ⟨⟨v21, S20⟩, hv21, h⟩ := obind h
      try dsimp only at h
      refine pE_iv (Bs := [.ref x1, .int x6, .int 0]) (st := [.int (v19 / 4)]) 1 rfl (Or.inl ⟨rfl, rfl⟩) rfl rfl (Nat.le_of_ble_eq_true rfl) (Nat.le_of_ble_eq_true rfl) (g_Bench_tell hv21) (f_Bench_tell sp d N S18 x0 x1 x6 0 _ hv21) ?_
      refine pE_jump 1 (pc' := 105) (ls' := [some (.ref x0), some (.ref x1), none, none, some (.int x4), some (.int x5), some (.int x6), some (.int t0)]) (st' := [.int 4, .int v21, .int (v19 / 4)]) (fun _ => rfl) ?_
      refine pE_jump 1 (pc' := 106) (ls' := [some (.ref x0), some (.ref x1), none, none, some (.int x4), some (.int x5), some (.int x6), some (.int t0)]) (st' := [.int (v21 / 4), .int (v19 / 4)]) (fun _ => rfl) ?_
      refine pE_jump 1 (pc' := 107) (ls' := [some (.ref x0), some (.ref x1), none, none, some (.int x4), some (.int x5), some (.int x6), some (.int t0)]) (st' := [.int ((v19 / 4) - (v21 / 4))]) (fun _ => rfl) ?_
      refine pE_mb rfl rfl (Nat.le_of_ble_eq_true rfl) ?_
      refine pE_jump 1 (pc' := 112) (ls' := [some (.ref x0), some (.ref x1), none, none, some (.int x4), some (.int x5), some (.int x6), some (.int t0)]) (st' := [.int x4, .int (if 0 ≤ ((v19 / 4) - (v21 / 4)) then ((v19 / 4) - (v21 / 4)) else 0 - ((v19 / 4) - (v21 / 4)))]) (fun _ => rfl) ?_
      refine pE_br ((if 0 ≤ ((v19 / 4) - (v21 / 4)) then ((v19 / 4) - (v21 / 4)) else 0 - ((v19 / 4) - (v21 / 4))) ≤ x4) rfl rfl (fun c22 => ?_) (fun c22 => ?_)
      · rw [if_pos c22] at h
        refine pE_weak [some (.ref x0), some (.ref x1), none, none, some (.int x4), some (.int x5), none, none] ⟨rfl, ⟨rfl, ⟨rfl, ⟨rfl, trivial⟩⟩⟩⟩ ?_
        exact f_Bench_explains_117 sp d N rec21 x0 x1 x4 x5 S20 hrec21 _ h
      · rw [if_neg c22] at h
        refine pE_weak [none, none, none, none, none, none, none, none] trivial ?_
        exact f_Bench_explains_115 sp d N S20 _ h
def F_Bench_explains_76 (N : Nat) (rec21 : Int32 → pm_S → Option (Int32 × pm_S)) (x0 : Nat) (x1 : Nat) (x4 : Int32) (x5 : Int32) (x6 : Int32) (S : pm_S) : Option (Int32 × pm_S) :=
    F_Bench_explains_77 N rec21 x0 x1 x4 x5 x6 0 S
set_option maxHeartbeats 4000000 in
set_option maxRecDepth 20000 in
theorem f_Bench_explains_76 (sp : pm_I → List Value → pm_S → pm_O → Prop) (d N : Nat) (rec21 : Int32 → pm_S → Option (Int32 × pm_S)) (x0 : Nat) (x1 : Nat) (x4 : Int32) (x5 : Int32) (x6 : Int32) (S : pm_S) (hrec21 : ∀ (y1 : Int32) (U : pm_S) (r : (Int32 × pm_S)), rec21 y1 U = some r → pmE pG (pm_rel pG sp (d + 5)) mi_Bench_explains 21 [some (.ref x0), some (.ref x1), none, none, some (.int x4), some (.int y1), none, none] [] U (some (.int r.1), r.2)) (r : (Int32 × pm_S)) (h : F_Bench_explains_76 N rec21 x0 x1 x4 x5 x6 S = some r) : pmE pG (pm_rel pG sp (d + 5)) mi_Bench_explains 76 [some (.ref x0), some (.ref x1), none, none, some (.int x4), some (.int x5), some (.int x6), none] [] S (some (.int r.1), r.2) := by
  unfold F_Bench_explains_76 at h
  refine pE_jump 1 (pc' := 77) (ls' := [some (.ref x0), some (.ref x1), none, none, some (.int x4), some (.int x5), some (.int x6), none]) (st' := [.int 0]) (fun _ => rfl) ?_
  exact f_Bench_explains_77 sp d N rec21 x0 x1 x4 x5 x6 0 S hrec21 _ h
def B_Bench_explains_21 (N : Nat)  (rec21 : Int32 → pm_S → Option (Int32 × pm_S)) (x0 : Nat) (x1 : Nat) (x4 : Int32) (x5 : Int32) (S : pm_S) : Option (Int32 × pm_S) :=
    (oR S x1 4 9).bind fun oq5 => match oq5 with
    | none => none
    | some q5 =>
    (F_Ledger_size N S q5).bind fun (v7, S6) =>
    if v7 ≤ x5 then
    F_Bench_explains_123 N S6
    else
    ((oR S6 x1 4 9).bind fun oq8 => match oq8 with
    | none => none
    | some q8 =>
    (F_Ledger_at N S6 q8 x5 0).bind fun (v10, S9) =>
    (oR S9 x1 4 8).bind fun oq11 => match oq11 with
    | none => none
    | some q11 =>
    (F_Ledger_at N S9 q11 v10 0).bind fun (v13, S12) =>
    if v13 = 1 then
    ((oR S12 x1 4 9).bind fun oq14 => match oq14 with
    | none => none
    | some q14 =>
    (F_Ledger_at N S12 q14 x5 1).bind fun (v16, S15) =>
    if v16 = 0 then
    F_Bench_explains_77 N rec21 x0 x1 x4 x5 v10 1 S15
    else
    F_Bench_explains_76 N rec21 x0 x1 x4 x5 v10 S15)
    else
    F_Bench_explains_76 N rec21 x0 x1 x4 x5 v10 S12)
def F_Bench_explains_21 (N : Nat)  (x0 : Nat) (x1 : Nat) (x4 : Int32) : Nat → Int32 → pm_S → Option (Int32 × pm_S)
  | 0 => fun _ _ => none
  | n + 1 => fun x5 S => B_Bench_explains_21 N  (F_Bench_explains_21 N  x0 x1 x4 n) x0 x1 x4 x5 S
set_option maxHeartbeats 4000000 in
set_option maxRecDepth 20000 in
theorem f_Bench_explains_21 (sp : pm_I → List Value → pm_S → pm_O → Prop) (d N : Nat)  (x0 : Nat) (x1 : Nat) (x4 : Int32)  : ∀ (n : Nat) (x5 : Int32) (S : pm_S) (r : (Int32 × pm_S)), F_Bench_explains_21 N  x0 x1 x4 n x5 S = some r → pmE pG (pm_rel pG sp (d + 5)) mi_Bench_explains 21 [some (.ref x0), some (.ref x1), none, none, some (.int x4), some (.int x5), none, none] [] S (some (.int r.1), r.2) := by
  intro n
  induction n with
  | zero =>
    intro x5 S r h
    cases h
  | succ n ih =>
    intro x5 S r h
    replace h : B_Bench_explains_21 N  (F_Bench_explains_21 N  x0 x1 x4 n) x0 x1 x4 x5 S = some r := h
    have hrec21 := ih
    generalize F_Bench_explains_21 N  x0 x1 x4 n = rec21 at h hrec21
    unfold B_Bench_explains_21 at h
    refine pE_jump 2 (pc' := 24) (ls' := [some (.ref x0), some (.ref x1), none, none, some (.int x4), some (.int x5), none, none]) (st' := [.ref x1, .int x5]) (fun _ => rfl) ?_
    obtain ⟨oq5, hq5, h⟩ := obind h
    cases oq5 with
    | none => cases h
    | some q5 =>
      try dsimp only at h
      refine pE_gfS rfl rfl hq5 ?_
      obtain ⟨⟨v7, S6⟩, hv7, h⟩ := obind h
      try dsimp only at h
      refine pE_iv (Bs := []) (st := [.int x5]) 1 rfl (Or.inl ⟨rfl, rfl⟩) rfl rfl (Nat.le_of_ble_eq_true rfl) (Nat.le_of_ble_eq_true rfl) (g_Ledger_size hv7) (f_Ledger_size sp (d + 4) N S q5 _ hv7) ?_
      refine pE_br (v7 ≤ x5) rfl rfl (fun c26 => ?_) (fun c26 => ?_)
      · rw [if_pos c26] at h
        refine pE_weak [none, none, none, none, none, none, none, none] trivial ?_
        exact f_Bench_explains_123 sp d N S6 _ h
      · rw [if_neg c26] at h
        refine pE_jump 1 (pc' := 34) (ls' := [some (.ref x0), some (.ref x1), none, none, some (.int x4), some (.int x5), none, none]) (st' := [.ref x1]) (fun _ => rfl) ?_
        obtain ⟨oq8, hq8, h⟩ := obind h
        cases oq8 with
        | none => cases h
        | some q8 =>
          try dsimp only at h
          refine pE_gfS rfl rfl hq8 ?_
          refine pE_jump 2 (pc' := 40) (ls' := [some (.ref x0), some (.ref x1), none, none, some (.int x4), some (.int x5), none, none]) (st' := [.int 0, .int x5, .ref q8]) (fun _ => rfl) ?_
          obtain ⟨⟨v10, S9⟩, hv10, h⟩ := obind h
          try dsimp only at h
          refine pE_iv (Bs := [.int x5, .int 0]) (st := []) 1 rfl (Or.inl ⟨rfl, rfl⟩) rfl rfl (Nat.le_of_ble_eq_true rfl) (Nat.le_of_ble_eq_true rfl) (g_Ledger_at hv10) (f_Ledger_at sp (d + 4) N S6 q8 x5 0 _ hv10) ?_
          refine pE_jump 2 (pc' := 46) (ls' := [some (.ref x0), some (.ref x1), none, none, some (.int x4), some (.int x5), some (.int v10), none]) (st' := [.ref x1]) (fun _ => rfl) ?_
          obtain ⟨oq11, hq11, h⟩ := obind h
          cases oq11 with
          | none => cases h
          | some q11 =>
            try dsimp only at h
            refine pE_gfS rfl rfl hq11 ?_
            refine pE_jump 2 (pc' := 52) (ls' := [some (.ref x0), some (.ref x1), none, none, some (.int x4), some (.int x5), some (.int v10), none]) (st' := [.int 0, .int v10, .ref q11]) (fun _ => rfl) ?_
            obtain ⟨⟨v13, S12⟩, hv13, h⟩ := obind h
            try dsimp only at h
            refine pE_iv (Bs := [.int v10, .int 0]) (st := []) 1 rfl (Or.inl ⟨rfl, rfl⟩) rfl rfl (Nat.le_of_ble_eq_true rfl) (Nat.le_of_ble_eq_true rfl) (g_Ledger_at hv13) (f_Ledger_at sp (d + 4) N S9 q11 v10 0 _ hv13) ?_
            refine pE_jump 1 (pc' := 56) (ls' := [some (.ref x0), some (.ref x1), none, none, some (.int x4), some (.int x5), some (.int v10), none]) (st' := [.int 1, .int v13]) (fun _ => rfl) ?_
            refine pE_br (¬ v13 = 1) rfl rfl (fun c25 => ?_) (fun c25 => ?_)
            · rw [if_neg c25] at h
              exact f_Bench_explains_76 sp d N rec21 x0 x1 x4 x5 v10 S12 hrec21 _ h
            · have c25 := Decidable.not_not.mp c25
              rw [if_pos c25] at h
              refine pE_jump 1 (pc' := 60) (ls' := [some (.ref x0), some (.ref x1), none, none, some (.int x4), some (.int x5), some (.int v10), none]) (st' := [.ref x1]) (fun _ => rfl) ?_
              obtain ⟨oq14, hq14, h⟩ := obind h
              cases oq14 with
              | none => cases h
              | some q14 =>
                try dsimp only at h
                refine pE_gfS rfl rfl hq14 ?_
                refine pE_jump 2 (pc' := 66) (ls' := [some (.ref x0), some (.ref x1), none, none, some (.int x4), some (.int x5), some (.int v10), none]) (st' := [.int 1, .int x5, .ref q14]) (fun _ => rfl) ?_
                obtain ⟨⟨v16, S15⟩, hv16, h⟩ := obind h
                try dsimp only at h
                refine pE_iv (Bs := [.int x5, .int 1]) (st := []) 1 rfl (Or.inl ⟨rfl, rfl⟩) rfl rfl (Nat.le_of_ble_eq_true rfl) (Nat.le_of_ble_eq_true rfl) (g_Ledger_at hv16) (f_Ledger_at sp (d + 4) N S12 q14 x5 1 _ hv16) ?_
                refine pE_br (¬ v16 = 0) rfl rfl (fun c24 => ?_) (fun c24 => ?_)
                · rw [if_neg c24] at h
                  exact f_Bench_explains_76 sp d N rec21 x0 x1 x4 x5 v10 S15 hrec21 _ h
                · have c24 := Decidable.not_not.mp c24
                  rw [if_pos c24] at h
                  refine pE_jump 2 (pc' := 77) (ls' := [some (.ref x0), some (.ref x1), none, none, some (.int x4), some (.int x5), some (.int v10), none]) (st' := [.int 1]) (fun _ => rfl) ?_
                  exact f_Bench_explains_77 sp d N rec21 x0 x1 x4 x5 v10 1 S15 hrec21 _ h
def F_Bench_explains (N : Nat) (S : pm_S) (a : Nat) (p0 : Nat) (p1 : Int32) (p2 : Int32) (p3 : Int32) : Option (Int32 × pm_S) :=
    if rcv S a 0 = true then
    ((oR S a 0 0).bind fun oq1 => match oq1 with
    | none => none
    | some q1 =>
    (F_Wires_lay N S q1 p0 0).bind fun S2 =>
    (oR S2 a 0 0).bind fun oq3 => match oq3 with
    | none => none
    | some q3 =>
    (F_Wires_cut N S2 q3 p1 p2).bind fun S4 =>
    F_Bench_explains_21 N a p0 p3 N 0 S4)
    else none
theorem g_Bench_explains {N : Nat} {S : pm_S} {a : Nat} {p0 : Nat} {p1 : Int32} {p2 : Int32} {p3 : Int32} {r : (Int32 × pm_S)} (h : F_Bench_explains N S a p0 p1 p2 p3 = some r) : rcv S a 0 = true := by
  unfold F_Bench_explains at h
  by_cases c : rcv S a 0 = true
  · exact c
  · rw [if_neg c] at h; cases h
set_option maxHeartbeats 4000000 in
set_option maxRecDepth 20000 in
theorem f_Bench_explains (sp : pm_I → List Value → pm_S → pm_O → Prop) (d N : Nat) (S : pm_S) (a : Nat) (p0 : Nat) (p1 : Int32) (p2 : Int32) (p3 : Int32) (r : (Int32 × pm_S)) (h : F_Bench_explains N S a p0 p1 p2 p3 = some r) : pm_rel pG sp (d + 6) mi_Bench_explains [.ref a, .ref p0, .int p1, .int p2, .int p3] S (some (.int r.1), r.2) := by
  have hg := g_Bench_explains h
  unfold F_Bench_explains at h
  rw [if_pos hg] at h
  refine pE_rel (d := d + 5) ?_
  show pmE pG _ mi_Bench_explains 0 [some (.ref a), some (.ref p0), some (.int p1), some (.int p2), some (.int p3), none, none, none] [] S _
  refine pE_jump 1 (pc' := 1) (ls' := [some (.ref a), some (.ref p0), some (.int p1), some (.int p2), some (.int p3), none, none, none]) (st' := [.ref a]) (fun _ => rfl) ?_
  obtain ⟨oq1, hq1, h⟩ := obind h
  cases oq1 with
  | none => cases h
  | some q1 =>
    try dsimp only at h
    refine pE_gfS rfl rfl hq1 ?_
    refine pE_jump 2 (pc' := 6) (ls' := [some (.ref a), some (.ref p0), some (.int p1), some (.int p2), some (.int p3), none, none, none]) (st' := [.int 0, .ref p0, .ref q1]) (fun _ => rfl) ?_
    obtain ⟨S2, hS2, h⟩ := obind h
    refine pE_iv (Bs := [.ref p0, .int 0]) (st := []) 1 rfl (Or.inl ⟨rfl, rfl⟩) rfl rfl (Nat.le_of_ble_eq_true rfl) (Nat.le_of_ble_eq_true rfl) (g_Wires_lay hS2) (f_Wires_lay sp d N S q1 p0 0 _ hS2) ?_
    refine pE_jump 1 (pc' := 10) (ls' := [some (.ref a), some (.ref p0), some (.int p1), some (.int p2), some (.int p3), none, none, none]) (st' := [.ref a]) (fun _ => rfl) ?_
    obtain ⟨oq3, hq3, h⟩ := obind h
    cases oq3 with
    | none => cases h
    | some q3 =>
      try dsimp only at h
      refine pE_gfS rfl rfl hq3 ?_
      refine pE_jump 2 (pc' := 15) (ls' := [some (.ref a), some (.ref p0), some (.int p1), some (.int p2), some (.int p3), none, none, none]) (st' := [.int p2, .int p1, .ref q3]) (fun _ => rfl) ?_
      obtain ⟨S4, hS4, h⟩ := obind h
      refine pE_iv (Bs := [.int p1, .int p2]) (st := []) 1 rfl (Or.inl ⟨rfl, rfl⟩) rfl rfl (Nat.le_of_ble_eq_true rfl) (Nat.le_of_ble_eq_true rfl) (g_Wires_cut hS4) (f_Wires_cut sp (d + 3) N S2 q3 p1 p2 _ hS4) ?_
      refine pE_jump 2 (pc' := 21) (ls' := [some (.ref a), some (.ref p0), some (.int p1), some (.int p2), some (.int p3), some (.int 0), none, none]) (st' := []) (fun _ => rfl) ?_
      refine pE_weak [some (.ref a), some (.ref p0), none, none, some (.int p3), some (.int 0), none, none] ⟨rfl, ⟨rfl, ⟨rfl, ⟨rfl, trivial⟩⟩⟩⟩ ?_
      exact f_Bench_explains_21 sp d N a p0 p3 N 0 S4 _ h
def F_Bench_breakAt_52 (N : Nat)  (x5 : Int32) (S : pm_S) : Option (Int32 × pm_S) :=
    some (x5, S)
set_option maxHeartbeats 4000000 in
set_option maxRecDepth 20000 in
theorem f_Bench_breakAt_52 (sp : pm_I → List Value → pm_S → pm_O → Prop) (d N : Nat)  (x5 : Int32) (S : pm_S)  (r : (Int32 × pm_S)) (h : F_Bench_breakAt_52 N  x5 S = some r) : pmE pG (pm_rel pG sp (d + 6)) mi_Bench_breakAt 52 [none, none, none, none, none, some (.int x5), none] [] S (some (.int r.1), r.2) := by
  unfold F_Bench_breakAt_52 at h
  refine pE_jump 1 (pc' := 54) (ls' := [none, none, none, none, none, some (.int x5), none]) (st' := [.int x5]) (fun _ => rfl) ?_
  cases h
  exact pE_ret rfl rfl rfl
def F_Bench_breakAt_46 (N : Nat) (rec6 : Int32 → Int32 → pm_S → Option (Int32 × pm_S)) (x0 : Nat) (x1 : Nat) (x2 : Int32) (x3 : Int32) (x4 : Int32) (x5 : Int32) (x6 : Int32) (S : pm_S) : Option (Int32 × pm_S) :=
    rec6 x5 (x6 + 1) S
set_option maxHeartbeats 4000000 in
set_option maxRecDepth 20000 in
theorem f_Bench_breakAt_46 (sp : pm_I → List Value → pm_S → pm_O → Prop) (d N : Nat) (rec6 : Int32 → Int32 → pm_S → Option (Int32 × pm_S)) (x0 : Nat) (x1 : Nat) (x2 : Int32) (x3 : Int32) (x4 : Int32) (x5 : Int32) (x6 : Int32) (S : pm_S) (hrec6 : ∀ (y1 : Int32) (y2 : Int32) (U : pm_S) (r : (Int32 × pm_S)), rec6 y1 y2 U = some r → pmE pG (pm_rel pG sp (d + 6)) mi_Bench_breakAt 6 [some (.ref x0), some (.ref x1), some (.int x2), some (.int x3), some (.int x4), some (.int y1), some (.int y2)] [] U (some (.int r.1), r.2)) (r : (Int32 × pm_S)) (h : F_Bench_breakAt_46 N rec6 x0 x1 x2 x3 x4 x5 x6 S = some r) : pmE pG (pm_rel pG sp (d + 6)) mi_Bench_breakAt 46 [some (.ref x0), some (.ref x1), some (.int x2), some (.int x3), some (.int x4), some (.int x5), some (.int x6)] [] S (some (.int r.1), r.2) := by
  unfold F_Bench_breakAt_46 at h
  refine pE_jump 2 (pc' := 6) (ls' := [some (.ref x0), some (.ref x1), some (.int x2), some (.int x3), some (.int x4), some (.int x5), some (.int (x6 + 1))]) (st' := []) (fun _ => rfl) ?_
  exact hrec6 x5 (x6 + 1) S _ h
def F_Bench_breakAt_30 (N : Nat) (rec6 : Int32 → Int32 → pm_S → Option (Int32 × pm_S)) (x0 : Nat) (x1 : Nat) (x2 : Int32) (x3 : Int32) (x4 : Int32) (x5 : Int32) (x6 : Int32) (S : pm_S) : Option (Int32 × pm_S) :=
    (F_Bench_explains N S x0 x1 x2 x6 x3).bind fun (v6, S5) =>
    if v6 = 0 then
    F_Bench_breakAt_46 N rec6 x0 x1 x2 x3 x4 x5 x6 S5
    else
    F_Bench_breakAt_46 N rec6 x0 x1 x2 x3 x4 x6 x6 S5
set_option maxHeartbeats 4000000 in
set_option maxRecDepth 20000 in
theorem f_Bench_breakAt_30 (sp : pm_I → List Value → pm_S → pm_O → Prop) (d N : Nat) (rec6 : Int32 → Int32 → pm_S → Option (Int32 × pm_S)) (x0 : Nat) (x1 : Nat) (x2 : Int32) (x3 : Int32) (x4 : Int32) (x5 : Int32) (x6 : Int32) (S : pm_S) (hrec6 : ∀ (y1 : Int32) (y2 : Int32) (U : pm_S) (r : (Int32 × pm_S)), rec6 y1 y2 U = some r → pmE pG (pm_rel pG sp (d + 6)) mi_Bench_breakAt 6 [some (.ref x0), some (.ref x1), some (.int x2), some (.int x3), some (.int x4), some (.int y1), some (.int y2)] [] U (some (.int r.1), r.2)) (r : (Int32 × pm_S)) (h : F_Bench_breakAt_30 N rec6 x0 x1 x2 x3 x4 x5 x6 S = some r) : pmE pG (pm_rel pG sp (d + 6)) mi_Bench_breakAt 30 [some (.ref x0), some (.ref x1), some (.int x2), some (.int x3), some (.int x4), some (.int x5), some (.int x6)] [] S (some (.int r.1), r.2) := by
  unfold F_Bench_breakAt_30 at h
  refine pE_jump 5 (pc' := 36) (ls' := [some (.ref x0), some (.ref x1), some (.int x2), some (.int x3), some (.int x4), some (.int x5), some (.int x6)]) (st' := [.int x3, .int x6, .int x2, .ref x1, .ref x0]) (fun _ => rfl) ?_
  obtain ⟨⟨v6, S5⟩, hv6, h⟩ := obind h
  try dsimp only at h
  refine pE_iv (Bs := [.ref x1, .int x2, .int x6, .int x3]) (st := []) 1 rfl (Or.inl ⟨rfl, rfl⟩) rfl rfl (Nat.le_of_ble_eq_true rfl) (Nat.le_of_ble_eq_true rfl) (g_Bench_explains hv6) (f_Bench_explains sp d N S x0 x1 x2 x6 x3 _ hv6) ?_
  refine pE_br (v6 = 0) rfl rfl (fun c7 => ?_) (fun c7 => ?_)
  · rw [if_pos c7] at h
    exact f_Bench_breakAt_46 sp d N rec6 x0 x1 x2 x3 x4 x5 x6 S5 hrec6 _ h
  · rw [if_neg c7] at h
    refine pE_jump 2 (pc' := 46) (ls' := [some (.ref x0), some (.ref x1), some (.int x2), some (.int x3), some (.int x4), some (.int x6), some (.int x6)]) (st' := []) (fun _ => rfl) ?_
    exact f_Bench_breakAt_46 sp d N rec6 x0 x1 x2 x3 x4 x6 x6 S5 hrec6 _ h
def B_Bench_breakAt_6 (N : Nat)  (rec6 : Int32 → Int32 → pm_S → Option (Int32 × pm_S)) (x0 : Nat) (x1 : Nat) (x2 : Int32) (x3 : Int32) (x4 : Int32) (x5 : Int32) (x6 : Int32) (S : pm_S) : Option (Int32 × pm_S) :=
    (F_BP_cableOf N S x2).bind fun (v2, S1) =>
    (F_Plan_lengthOf N S1 x1 v2).bind fun (v4, S3) =>
    if v4 < x6 then
    F_Bench_breakAt_52 N x5 S3
    else
    (if x5 = (-1) then
    F_Bench_breakAt_30 N rec6 x0 x1 x2 x3 x4 x5 x6 S3
    else
    (if x4 = 0 then
    F_Bench_breakAt_46 N rec6 x0 x1 x2 x3 x4 x5 x6 S3
    else
    F_Bench_breakAt_30 N rec6 x0 x1 x2 x3 x4 x5 x6 S3))
def F_Bench_breakAt_6 (N : Nat)  (x0 : Nat) (x1 : Nat) (x2 : Int32) (x3 : Int32) (x4 : Int32) : Nat → Int32 → Int32 → pm_S → Option (Int32 × pm_S)
  | 0 => fun _ _ _ => none
  | n + 1 => fun x5 x6 S => B_Bench_breakAt_6 N  (F_Bench_breakAt_6 N  x0 x1 x2 x3 x4 n) x0 x1 x2 x3 x4 x5 x6 S
set_option maxHeartbeats 4000000 in
set_option maxRecDepth 20000 in
theorem f_Bench_breakAt_6 (sp : pm_I → List Value → pm_S → pm_O → Prop) (d N : Nat)  (x0 : Nat) (x1 : Nat) (x2 : Int32) (x3 : Int32) (x4 : Int32)  : ∀ (n : Nat) (x5 : Int32) (x6 : Int32) (S : pm_S) (r : (Int32 × pm_S)), F_Bench_breakAt_6 N  x0 x1 x2 x3 x4 n x5 x6 S = some r → pmE pG (pm_rel pG sp (d + 6)) mi_Bench_breakAt 6 [some (.ref x0), some (.ref x1), some (.int x2), some (.int x3), some (.int x4), some (.int x5), some (.int x6)] [] S (some (.int r.1), r.2) := by
  intro n
  induction n with
  | zero =>
    intro x5 x6 S r h
    cases h
  | succ n ih =>
    intro x5 x6 S r h
    replace h : B_Bench_breakAt_6 N  (F_Bench_breakAt_6 N  x0 x1 x2 x3 x4 n) x0 x1 x2 x3 x4 x5 x6 S = some r := h
    have hrec6 := ih
    generalize F_Bench_breakAt_6 N  x0 x1 x2 x3 x4 n = rec6 at h hrec6
    unfold B_Bench_breakAt_6 at h
    refine pE_jump 3 (pc' := 10) (ls' := [some (.ref x0), some (.ref x1), some (.int x2), some (.int x3), some (.int x4), some (.int x5), some (.int x6)]) (st' := [.int x2, .ref x1, .int x6]) (fun _ => rfl) ?_
    obtain ⟨⟨v2, S1⟩, hv2, h⟩ := obind h
    try dsimp only at h
    refine pE_is (Bs := [.int x2]) (st := [.ref x1, .int x6]) rfl rfl rfl (Nat.le_of_ble_eq_true rfl) (Nat.le_of_ble_eq_true rfl) (f_BP_cableOf sp (d + 5) N S x2 _ hv2) ?_
    obtain ⟨⟨v4, S3⟩, hv4, h⟩ := obind h
    try dsimp only at h
    refine pE_iv (Bs := [.int v2]) (st := [.int x6]) 1 rfl (Or.inl ⟨rfl, rfl⟩) rfl rfl (Nat.le_of_ble_eq_true rfl) (Nat.le_of_ble_eq_true rfl) (g_Plan_lengthOf hv4) (f_Plan_lengthOf sp (d + 4) N S1 x1 v2 _ hv4) ?_
    refine pE_br (v4 < x6) rfl rfl (fun c10 => ?_) (fun c10 => ?_)
    · rw [if_pos c10] at h
      refine pE_weak [none, none, none, none, none, some (.int x5), none] ⟨rfl, trivial⟩ ?_
      exact f_Bench_breakAt_52 sp d N x5 S3 _ h
    · rw [if_neg c10] at h
      refine pE_jump 2 (pc' := 22) (ls' := [some (.ref x0), some (.ref x1), some (.int x2), some (.int x3), some (.int x4), some (.int x5), some (.int x6)]) (st' := [.int (-1), .int x5]) (fun _ => rfl) ?_
      refine pE_br (x5 = (-1)) rfl rfl (fun c9 => ?_) (fun c9 => ?_)
      · rw [if_pos c9] at h
        exact f_Bench_breakAt_30 sp d N rec6 x0 x1 x2 x3 x4 x5 x6 S3 hrec6 _ h
      · rw [if_neg c9] at h
        refine pE_jump 1 (pc' := 27) (ls' := [some (.ref x0), some (.ref x1), some (.int x2), some (.int x3), some (.int x4), some (.int x5), some (.int x6)]) (st' := [.int x4]) (fun _ => rfl) ?_
        refine pE_br (x4 = 0) rfl rfl (fun c8 => ?_) (fun c8 => ?_)
        · rw [if_pos c8] at h
          exact f_Bench_breakAt_46 sp d N rec6 x0 x1 x2 x3 x4 x5 x6 S3 hrec6 _ h
        · rw [if_neg c8] at h
          exact f_Bench_breakAt_30 sp d N rec6 x0 x1 x2 x3 x4 x5 x6 S3 hrec6 _ h
def F_Bench_breakAt (N : Nat) (S : pm_S) (a : Nat) (p0 : Nat) (p1 : Int32) (p2 : Int32) (p3 : Int32) : Option (Int32 × pm_S) :=
    if rcv S a 0 = true then
    (F_Bench_breakAt_6 N a p0 p1 p2 p3 N (-1) 0 S)
    else none
theorem g_Bench_breakAt {N : Nat} {S : pm_S} {a : Nat} {p0 : Nat} {p1 : Int32} {p2 : Int32} {p3 : Int32} {r : (Int32 × pm_S)} (h : F_Bench_breakAt N S a p0 p1 p2 p3 = some r) : rcv S a 0 = true := by
  unfold F_Bench_breakAt at h
  by_cases c : rcv S a 0 = true
  · exact c
  · rw [if_neg c] at h; cases h
set_option maxHeartbeats 4000000 in
set_option maxRecDepth 20000 in
theorem f_Bench_breakAt (sp : pm_I → List Value → pm_S → pm_O → Prop) (d N : Nat) (S : pm_S) (a : Nat) (p0 : Nat) (p1 : Int32) (p2 : Int32) (p3 : Int32) (r : (Int32 × pm_S)) (h : F_Bench_breakAt N S a p0 p1 p2 p3 = some r) : pm_rel pG sp (d + 7) mi_Bench_breakAt [.ref a, .ref p0, .int p1, .int p2, .int p3] S (some (.int r.1), r.2) := by
  have hg := g_Bench_breakAt h
  unfold F_Bench_breakAt at h
  rw [if_pos hg] at h
  refine pE_rel (d := d + 6) ?_
  show pmE pG _ mi_Bench_breakAt 0 [some (.ref a), some (.ref p0), some (.int p1), some (.int p2), some (.int p3), none, none] [] S _
  refine pE_jump 4 (pc' := 6) (ls' := [some (.ref a), some (.ref p0), some (.int p1), some (.int p2), some (.int p3), some (.int (-1)), some (.int 0)]) (st' := []) (fun _ => rfl) ?_
  exact f_Bench_breakAt_6 sp d N a p0 p1 p2 p3 N (-1) 0 S _ h
def F_BP_distance_38 (N : Nat)   (S : pm_S) : Option (Int32 × pm_S) :=
    some ((-1), S)
set_option maxHeartbeats 4000000 in
set_option maxRecDepth 20000 in
theorem f_BP_distance_38 (sp : pm_I → List Value → pm_S → pm_O → Prop) (d N : Nat)   (S : pm_S)  (r : (Int32 × pm_S)) (h : F_BP_distance_38 N   S = some r) : pmE pG (pm_rel pG sp (d + 7)) mi_BP_distance 38 [none, none, none, none, none, none, none] [] S (some (.int r.1), r.2) := by
  unfold F_BP_distance_38 at h
  refine pE_jump 1 (pc' := 39) (ls' := [none, none, none, none, none, none, none]) (st' := [.int (-1)]) (fun _ => rfl) ?_
  cases h
  exact pE_ret rfl rfl rfl
def F_BP_distance_64_2 (N : Nat)  (t0 : Int32) (t1 : Int32) (t2 : Int32) (t3 : Nat) (t4 : Nat) (S : pm_S) : Option (Int32 × pm_S) :=
    (F_Bench_breakAt N S t4 t3 t2 t1 t0).bind fun (v11, S10) =>
    some (v11, S10)
set_option maxHeartbeats 4000000 in
set_option maxRecDepth 20000 in
theorem f_BP_distance_64_2 (sp : pm_I → List Value → pm_S → pm_O → Prop) (d N : Nat)  (t0 : Int32) (t1 : Int32) (t2 : Int32) (t3 : Nat) (t4 : Nat) (S : pm_S)  (r : (Int32 × pm_S)) (h : F_BP_distance_64_2 N  t0 t1 t2 t3 t4 S = some r) : pmE pG (pm_rel pG sp (d + 7)) mi_BP_distance 64 [none, none, none, none, none, none, none] [.int t0, .int t1, .int t2, .ref t3, .ref t4] S (some (.int r.1), r.2) := by
  unfold F_BP_distance_64_2 at h
  obtain ⟨⟨v11, S10⟩, hv11, h⟩ := obind h
  try dsimp only at h
  refine pE_iv (Bs := [.ref t3, .int t2, .int t1, .int t0]) (st := []) 1 rfl (Or.inl ⟨rfl, rfl⟩) rfl rfl (Nat.le_of_ble_eq_true rfl) (Nat.le_of_ble_eq_true rfl) (g_Bench_breakAt hv11) (f_Bench_breakAt sp d N S t4 t3 t2 t1 t0 _ hv11) ?_
  cases h
  exact pE_ret rfl rfl rfl
def F_BP_distance (N : Nat) (S : pm_S) (a : Nat) (p0 : Int32) (p1 : Int32) (p2 : Int32) (p3 : Int32) (p4 : Int32) : Option (Int32 × pm_S) :=
    if rcv S a 10 = true then
    ((F_BP_planAt N S a p0).bind fun (oq2, S1) => match oq2 with
    | none => F_BP_distance_38 N S1
    | some q2 =>
    (F_Plan_hasPair N S1 q2 p1 p2).bind fun (v4, S3) =>
    if v4 = 0 then
    F_BP_distance_38 N S3
    else
    (if p3 < 0 then
    F_BP_distance_38 N S3
    else
    (if p4 < 0 then
    F_BP_distance_38 N S3
    else
    (if p4 ≤ 1 then
    ((oR S3 a 10 3).bind fun oq5 => match oq5 with
    | none => none
    | some q5 =>
    (F_BP_siteOf N S3 p1 p2).bind fun (v9, S8) =>
    if p4 = 1 then
    F_BP_distance_64_2 N 1 p3 v9 q2 q5 S8
    else
    F_BP_distance_64_2 N 0 p3 v9 q2 q5 S8)
    else
    F_BP_distance_38 N S3))))
    else none
theorem g_BP_distance {N : Nat} {S : pm_S} {a : Nat} {p0 : Int32} {p1 : Int32} {p2 : Int32} {p3 : Int32} {p4 : Int32} {r : (Int32 × pm_S)} (h : F_BP_distance N S a p0 p1 p2 p3 p4 = some r) : rcv S a 10 = true := by
  unfold F_BP_distance at h
  by_cases c : rcv S a 10 = true
  · exact c
  · rw [if_neg c] at h; cases h
set_option maxHeartbeats 4000000 in
set_option maxRecDepth 20000 in
theorem f_BP_distance (sp : pm_I → List Value → pm_S → pm_O → Prop) (d N : Nat) (S : pm_S) (a : Nat) (p0 : Int32) (p1 : Int32) (p2 : Int32) (p3 : Int32) (p4 : Int32) (r : (Int32 × pm_S)) (h : F_BP_distance N S a p0 p1 p2 p3 p4 = some r) : pm_rel pG sp (d + 8) mi_BP_distance [.ref a, .int p0, .int p1, .int p2, .int p3, .int p4] S (some (.int r.1), r.2) := by
  have hg := g_BP_distance h
  unfold F_BP_distance at h
  rw [if_pos hg] at h
  refine pE_rel (d := d + 7) ?_
  show pmE pG _ mi_BP_distance 0 [some (.ref a), some (.int p0), some (.int p1), some (.int p2), some (.int p3), some (.int p4), none] [] S _
  refine pE_jump 2 (pc' := 2) (ls' := [some (.ref a), some (.int p0), some (.int p1), some (.int p2), some (.int p3), some (.int p4), none]) (st' := [.int p0, .ref a]) (fun _ => rfl) ?_
  obtain ⟨⟨oq2, S1⟩, hq2, h⟩ := obind h
  try dsimp only at h
  cases oq2 with
  | none =>
    try dsimp only at h
    refine pE_iv (Bs := [.int p0]) (st := []) 1 rfl (Or.inl ⟨rfl, rfl⟩) rfl rfl (Nat.le_of_ble_eq_true rfl) (Nat.le_of_ble_eq_true rfl) (g_BP_planAt hq2) (f_BP_planAt sp (d + 6) N S a p0 _ hq2) ?_
    refine pE_jump 3 (pc' := 38) (ls' := [some (.ref a), some (.int p0), some (.int p1), some (.int p2), some (.int p3), some (.int p4), some (.null)]) (st' := []) (fun _ => rfl) ?_
    refine pE_weak [none, none, none, none, none, none, none] trivial ?_
    exact f_BP_distance_38 sp d N S1 _ h
  | some q2 =>
    try dsimp only at h
    refine pE_iv (Bs := [.int p0]) (st := []) 1 rfl (Or.inl ⟨rfl, rfl⟩) rfl rfl (Nat.le_of_ble_eq_true rfl) (Nat.le_of_ble_eq_true rfl) (g_BP_planAt hq2) (f_BP_planAt sp (d + 6) N S a p0 _ hq2) ?_
    refine pE_jump 6 (pc' := 16) (ls' := [some (.ref a), some (.int p0), some (.int p1), some (.int p2), some (.int p3), some (.int p4), some (.ref q2)]) (st' := [.int p2, .int p1, .ref q2]) (fun _ => rfl) ?_
    obtain ⟨⟨v4, S3⟩, hv4, h⟩ := obind h
    try dsimp only at h
    refine pE_iv (Bs := [.int p1, .int p2]) (st := []) 1 rfl (Or.inl ⟨rfl, rfl⟩) rfl rfl (Nat.le_of_ble_eq_true rfl) (Nat.le_of_ble_eq_true rfl) (g_Plan_hasPair hv4) (f_Plan_hasPair sp (d + 4) N S1 q2 p1 p2 _ hv4) ?_
    refine pE_br (v4 = 0) rfl rfl (fun c16 => ?_) (fun c16 => ?_)
    · rw [if_pos c16] at h
      refine pE_weak [none, none, none, none, none, none, none] trivial ?_
      exact f_BP_distance_38 sp d N S3 _ h
    · rw [if_neg c16] at h
      refine pE_jump 1 (pc' := 24) (ls' := [some (.ref a), some (.int p0), some (.int p1), some (.int p2), some (.int p3), some (.int p4), some (.ref q2)]) (st' := [.int p3]) (fun _ => rfl) ?_
      refine pE_br (p3 < 0) rfl rfl (fun c15 => ?_) (fun c15 => ?_)
      · rw [if_pos c15] at h
        refine pE_weak [none, none, none, none, none, none, none] trivial ?_
        exact f_BP_distance_38 sp d N S3 _ h
      · rw [if_neg c15] at h
        refine pE_jump 1 (pc' := 29) (ls' := [some (.ref a), some (.int p0), some (.int p1), some (.int p2), some (.int p3), some (.int p4), some (.ref q2)]) (st' := [.int p4]) (fun _ => rfl) ?_
        refine pE_br (p4 < 0) rfl rfl (fun c14 => ?_) (fun c14 => ?_)
        · rw [if_pos c14] at h
          refine pE_weak [none, none, none, none, none, none, none] trivial ?_
          exact f_BP_distance_38 sp d N S3 _ h
        · rw [if_neg c14] at h
          refine pE_jump 2 (pc' := 35) (ls' := [some (.ref a), some (.int p0), some (.int p1), some (.int p2), some (.int p3), some (.int p4), some (.ref q2)]) (st' := [.int 1, .int p4]) (fun _ => rfl) ?_
          refine pE_br (p4 ≤ 1) rfl rfl (fun c13 => ?_) (fun c13 => ?_)
          · rw [if_pos c13] at h
            refine pE_jump 1 (pc' := 41) (ls' := [some (.ref a), some (.int p0), some (.int p1), some (.int p2), some (.int p3), some (.int p4), some (.ref q2)]) (st' := [.ref a]) (fun _ => rfl) ?_
            obtain ⟨oq5, hq5, h⟩ := obind h
            cases oq5 with
            | none => cases h
            | some q5 =>
              try dsimp only at h
              refine pE_gfS rfl rfl hq5 ?_
              refine pE_jump 3 (pc' := 48) (ls' := [some (.ref a), some (.int p0), some (.int p1), some (.int p2), some (.int p3), some (.int p4), some (.ref q2)]) (st' := [.int p2, .int p1, .ref q2, .ref q5]) (fun _ => rfl) ?_
              obtain ⟨⟨v9, S8⟩, hv9, h⟩ := obind h
              try dsimp only at h
              refine pE_is (Bs := [.int p1, .int p2]) (st := [.ref q2, .ref q5]) rfl rfl rfl (Nat.le_of_ble_eq_true rfl) (Nat.le_of_ble_eq_true rfl) (f_BP_siteOf sp (d + 6) N S3 p1 p2 _ hv9) ?_
              refine pE_jump 3 (pc' := 56) (ls' := [some (.ref a), some (.int p0), some (.int p1), some (.int p2), some (.int p3), some (.int p4), some (.ref q2)]) (st' := [.int 1, .int p4, .int p3, .int v9, .ref q2, .ref q5]) (fun _ => rfl) ?_
              refine pE_br (¬ p4 = 1) rfl rfl (fun c12 => ?_) (fun c12 => ?_)
              · rw [if_neg c12] at h
                refine pE_jump 1 (pc' := 64) (ls' := [some (.ref a), some (.int p0), some (.int p1), some (.int p2), some (.int p3), some (.int p4), some (.ref q2)]) (st' := [.int 0, .int p3, .int v9, .ref q2, .ref q5]) (fun _ => rfl) ?_
                refine pE_weak [none, none, none, none, none, none, none] trivial ?_
                exact f_BP_distance_64_2 sp d N 0 p3 v9 q2 q5 S8 _ h
              · have c12 := Decidable.not_not.mp c12
                rw [if_pos c12] at h
                refine pE_jump 2 (pc' := 64) (ls' := [some (.ref a), some (.int p0), some (.int p1), some (.int p2), some (.int p3), some (.int p4), some (.ref q2)]) (st' := [.int 1, .int p3, .int v9, .ref q2, .ref q5]) (fun _ => rfl) ?_
                refine pE_weak [none, none, none, none, none, none, none] trivial ?_
                exact f_BP_distance_64_2 sp d N 1 p3 v9 q2 q5 S8 _ h
          · rw [if_neg c13] at h
            refine pE_weak [none, none, none, none, none, none, none] trivial ?_
            exact f_BP_distance_38 sp d N S3 _ h
def F_Plan_isWantedByOther_78 (N : Nat)   (S : pm_S) : Option (Int32 × pm_S) :=
    some (0, S)
set_option maxHeartbeats 4000000 in
set_option maxRecDepth 20000 in
theorem f_Plan_isWantedByOther_78 (sp : pm_I → List Value → pm_S → pm_O → Prop) (d N : Nat)   (S : pm_S)  (r : (Int32 × pm_S)) (h : F_Plan_isWantedByOther_78 N   S = some r) : pmE pG (pm_rel pG sp (d + 1)) mi_Plan_isWantedByOther 78 [none, none, none, none, none, none, none] [] S (some (.int r.1), r.2) := by
  unfold F_Plan_isWantedByOther_78 at h
  refine pE_jump 1 (pc' := 79) (ls' := [none, none, none, none, none, none, none]) (st' := [.int 0]) (fun _ => rfl) ?_
  cases h
  exact pE_ret rfl rfl rfl
def F_Plan_isWantedByOther_72 (N : Nat) (rec3 : Int32 → pm_S → Option (Int32 × pm_S)) (x0 : Nat) (x1 : Int32) (x2 : Int32) (x3 : Int32) (x4 : Int32) (S : pm_S) : Option (Int32 × pm_S) :=
    rec3 (x4 + 1) S
set_option maxHeartbeats 4000000 in
set_option maxRecDepth 20000 in
theorem f_Plan_isWantedByOther_72 (sp : pm_I → List Value → pm_S → pm_O → Prop) (d N : Nat) (rec3 : Int32 → pm_S → Option (Int32 × pm_S)) (x0 : Nat) (x1 : Int32) (x2 : Int32) (x3 : Int32) (x4 : Int32) (S : pm_S) (hrec3 : ∀ (y1 : Int32) (U : pm_S) (r : (Int32 × pm_S)), rec3 y1 U = some r → pmE pG (pm_rel pG sp (d + 1)) mi_Plan_isWantedByOther 3 [some (.ref x0), some (.int x1), some (.int x2), some (.int x3), some (.int y1), none, none] [] U (some (.int r.1), r.2)) (r : (Int32 × pm_S)) (h : F_Plan_isWantedByOther_72 N rec3 x0 x1 x2 x3 x4 S = some r) : pmE pG (pm_rel pG sp (d + 1)) mi_Plan_isWantedByOther 72 [some (.ref x0), some (.int x1), some (.int x2), some (.int x3), some (.int x4), none, none] [] S (some (.int r.1), r.2) := by
  unfold F_Plan_isWantedByOther_72 at h
  refine pE_jump 2 (pc' := 3) (ls' := [some (.ref x0), some (.int x1), some (.int x2), some (.int x3), some (.int (x4 + 1)), none, none]) (st' := []) (fun _ => rfl) ?_
  exact hrec3 (x4 + 1) S _ h
def F_Plan_isWantedByOther_70 (N : Nat)   (S : pm_S) : Option (Int32 × pm_S) :=
    some (1, S)
set_option maxHeartbeats 4000000 in
set_option maxRecDepth 20000 in
theorem f_Plan_isWantedByOther_70 (sp : pm_I → List Value → pm_S → pm_O → Prop) (d N : Nat)   (S : pm_S)  (r : (Int32 × pm_S)) (h : F_Plan_isWantedByOther_70 N   S = some r) : pmE pG (pm_rel pG sp (d + 1)) mi_Plan_isWantedByOther 70 [none, none, none, none, none, none, none] [] S (some (.int r.1), r.2) := by
  unfold F_Plan_isWantedByOther_70 at h
  refine pE_jump 1 (pc' := 71) (ls' := [none, none, none, none, none, none, none]) (st' := [.int 1]) (fun _ => rfl) ?_
  cases h
  exact pE_ret rfl rfl rfl
def F_Plan_isWantedByOther_44 (N : Nat) (rec3 : Int32 → pm_S → Option (Int32 × pm_S)) (x0 : Nat) (x1 : Int32) (x2 : Int32) (x3 : Int32) (x4 : Int32) (t0 : Int32) (S : pm_S) : Option (Int32 × pm_S) :=
    if x4 = x3 then
    F_Plan_isWantedByOther_72 N rec3 x0 x1 x2 x3 x4 S
    else
    (if t0 = 0 then
    F_Plan_isWantedByOther_72 N rec3 x0 x1 x2 x3 x4 S
    else
    ((oR S x0 4 10).bind fun oq5 => match oq5 with
    | none => none
    | some q5 =>
    (F_BP_valueAt N S q5 x4).bind fun (v7, S6) =>
    if v7 = x2 then
    F_Plan_isWantedByOther_70 N S6
    else
    F_Plan_isWantedByOther_72 N rec3 x0 x1 x2 x3 x4 S6))
set_option maxHeartbeats 4000000 in
set_option maxRecDepth 20000 in
theorem f_Plan_isWantedByOther_44 (sp : pm_I → List Value → pm_S → pm_O → Prop) (d N : Nat) (rec3 : Int32 → pm_S → Option (Int32 × pm_S)) (x0 : Nat) (x1 : Int32) (x2 : Int32) (x3 : Int32) (x4 : Int32) (t0 : Int32) (S : pm_S) (hrec3 : ∀ (y1 : Int32) (U : pm_S) (r : (Int32 × pm_S)), rec3 y1 U = some r → pmE pG (pm_rel pG sp (d + 1)) mi_Plan_isWantedByOther 3 [some (.ref x0), some (.int x1), some (.int x2), some (.int x3), some (.int y1), none, none] [] U (some (.int r.1), r.2)) (r : (Int32 × pm_S)) (h : F_Plan_isWantedByOther_44 N rec3 x0 x1 x2 x3 x4 t0 S = some r) : pmE pG (pm_rel pG sp (d + 1)) mi_Plan_isWantedByOther 44 [some (.ref x0), some (.int x1), some (.int x2), some (.int x3), some (.int x4), none, none] [.int t0] S (some (.int r.1), r.2) := by
  unfold F_Plan_isWantedByOther_44 at h
  refine pE_jump 3 (pc' := 49) (ls' := [some (.ref x0), some (.int x1), some (.int x2), some (.int x3), some (.int x4), none, some (.int t0)]) (st' := [.int x3, .int x4]) (fun _ => rfl) ?_
  refine pE_br (x4 = x3) rfl rfl (fun c10 => ?_) (fun c10 => ?_)
  · rw [if_pos c10] at h
    refine pE_weak [some (.ref x0), some (.int x1), some (.int x2), some (.int x3), some (.int x4), none, none] ⟨rfl, ⟨rfl, ⟨rfl, ⟨rfl, ⟨rfl, trivial⟩⟩⟩⟩⟩ ?_
    exact f_Plan_isWantedByOther_72 sp d N rec3 x0 x1 x2 x3 x4 S hrec3 _ h
  · rw [if_neg c10] at h
    refine pE_jump 1 (pc' := 54) (ls' := [some (.ref x0), some (.int x1), some (.int x2), some (.int x3), some (.int x4), none, some (.int t0)]) (st' := [.int t0]) (fun _ => rfl) ?_
    refine pE_br (t0 = 0) rfl rfl (fun c9 => ?_) (fun c9 => ?_)
    · rw [if_pos c9] at h
      refine pE_weak [some (.ref x0), some (.int x1), some (.int x2), some (.int x3), some (.int x4), none, none] ⟨rfl, ⟨rfl, ⟨rfl, ⟨rfl, ⟨rfl, trivial⟩⟩⟩⟩⟩ ?_
      exact f_Plan_isWantedByOther_72 sp d N rec3 x0 x1 x2 x3 x4 S hrec3 _ h
    · rw [if_neg c9] at h
      refine pE_jump 1 (pc' := 58) (ls' := [some (.ref x0), some (.int x1), some (.int x2), some (.int x3), some (.int x4), none, some (.int t0)]) (st' := [.ref x0]) (fun _ => rfl) ?_
      obtain ⟨oq5, hq5, h⟩ := obind h
      cases oq5 with
      | none => cases h
      | some q5 =>
        try dsimp only at h
        refine pE_gfS rfl rfl hq5 ?_
        refine pE_jump 1 (pc' := 63) (ls' := [some (.ref x0), some (.int x1), some (.int x2), some (.int x3), some (.int x4), none, some (.int t0)]) (st' := [.int x4, .ref q5]) (fun _ => rfl) ?_
        obtain ⟨⟨v7, S6⟩, hv7, h⟩ := obind h
        try dsimp only at h
        refine pE_is (Bs := [.ref q5, .int x4]) (st := []) rfl rfl rfl (Nat.le_of_ble_eq_true rfl) (Nat.le_of_ble_eq_true rfl) (f_BP_valueAt sp d N S q5 x4 _ hv7) ?_
        refine pE_jump 1 (pc' := 67) (ls' := [some (.ref x0), some (.int x1), some (.int x2), some (.int x3), some (.int x4), none, some (.int t0)]) (st' := [.int x2, .int v7]) (fun _ => rfl) ?_
        refine pE_br (¬ v7 = x2) rfl rfl (fun c8 => ?_) (fun c8 => ?_)
        · rw [if_neg c8] at h
          refine pE_weak [some (.ref x0), some (.int x1), some (.int x2), some (.int x3), some (.int x4), none, none] ⟨rfl, ⟨rfl, ⟨rfl, ⟨rfl, ⟨rfl, trivial⟩⟩⟩⟩⟩ ?_
          exact f_Plan_isWantedByOther_72 sp d N rec3 x0 x1 x2 x3 x4 S6 hrec3 _ h
        · have c8 := Decidable.not_not.mp c8
          rw [if_pos c8] at h
          refine pE_weak [none, none, none, none, none, none, none] trivial ?_
          exact f_Plan_isWantedByOther_70 sp d N S6 _ h
def F_Plan_isWantedByOther_43 (N : Nat) (rec3 : Int32 → pm_S → Option (Int32 × pm_S)) (x0 : Nat) (x1 : Int32) (x2 : Int32) (x3 : Int32) (x4 : Int32) (S : pm_S) : Option (Int32 × pm_S) :=
    F_Plan_isWantedByOther_44 N rec3 x0 x1 x2 x3 x4 0 S
set_option maxHeartbeats 4000000 in
set_option maxRecDepth 20000 in
theorem f_Plan_isWantedByOther_43 (sp : pm_I → List Value → pm_S → pm_O → Prop) (d N : Nat) (rec3 : Int32 → pm_S → Option (Int32 × pm_S)) (x0 : Nat) (x1 : Int32) (x2 : Int32) (x3 : Int32) (x4 : Int32) (S : pm_S) (hrec3 : ∀ (y1 : Int32) (U : pm_S) (r : (Int32 × pm_S)), rec3 y1 U = some r → pmE pG (pm_rel pG sp (d + 1)) mi_Plan_isWantedByOther 3 [some (.ref x0), some (.int x1), some (.int x2), some (.int x3), some (.int y1), none, none] [] U (some (.int r.1), r.2)) (r : (Int32 × pm_S)) (h : F_Plan_isWantedByOther_43 N rec3 x0 x1 x2 x3 x4 S = some r) : pmE pG (pm_rel pG sp (d + 1)) mi_Plan_isWantedByOther 43 [some (.ref x0), some (.int x1), some (.int x2), some (.int x3), some (.int x4), none, none] [] S (some (.int r.1), r.2) := by
  unfold F_Plan_isWantedByOther_43 at h
  refine pE_jump 1 (pc' := 44) (ls' := [some (.ref x0), some (.int x1), some (.int x2), some (.int x3), some (.int x4), none, none]) (st' := [.int 0]) (fun _ => rfl) ?_
  exact f_Plan_isWantedByOther_44 sp d N rec3 x0 x1 x2 x3 x4 0 S hrec3 _ h
def B_Plan_isWantedByOther_3 (N : Nat)  (rec3 : Int32 → pm_S → Option (Int32 × pm_S)) (x0 : Nat) (x1 : Int32) (x2 : Int32) (x3 : Int32) (x4 : Int32) (S : pm_S) : Option (Int32 × pm_S) :=
    if 10 ≤ x4 then
    F_Plan_isWantedByOther_78 N S
    else
    ((oR S x0 4 5).bind fun oq1 => match oq1 with
    | none => none
    | some q1 =>
    (oR S q1 1 3).bind fun oq2 => match oq2 with
    | none => none
    | some q2 =>
    (F_BP_valueAt N S q2 x4).bind fun (v4, S3) =>
    if v4 = (-1) then
    F_Plan_isWantedByOther_43 N rec3 x0 x1 x2 x3 x4 S3
    else
    ((F_BP_cableOf N S3 v4).bind fun (v12, S11) =>
    if v12 = x1 then
    F_Plan_isWantedByOther_44 N rec3 x0 x1 x2 x3 x4 1 S11
    else
    F_Plan_isWantedByOther_43 N rec3 x0 x1 x2 x3 x4 S11))
def F_Plan_isWantedByOther_3 (N : Nat)  (x0 : Nat) (x1 : Int32) (x2 : Int32) (x3 : Int32) : Nat → Int32 → pm_S → Option (Int32 × pm_S)
  | 0 => fun _ _ => none
  | n + 1 => fun x4 S => B_Plan_isWantedByOther_3 N  (F_Plan_isWantedByOther_3 N  x0 x1 x2 x3 n) x0 x1 x2 x3 x4 S
set_option maxHeartbeats 4000000 in
set_option maxRecDepth 20000 in
theorem f_Plan_isWantedByOther_3 (sp : pm_I → List Value → pm_S → pm_O → Prop) (d N : Nat)  (x0 : Nat) (x1 : Int32) (x2 : Int32) (x3 : Int32)  : ∀ (n : Nat) (x4 : Int32) (S : pm_S) (r : (Int32 × pm_S)), F_Plan_isWantedByOther_3 N  x0 x1 x2 x3 n x4 S = some r → pmE pG (pm_rel pG sp (d + 1)) mi_Plan_isWantedByOther 3 [some (.ref x0), some (.int x1), some (.int x2), some (.int x3), some (.int x4), none, none] [] S (some (.int r.1), r.2) := by
  intro n
  induction n with
  | zero =>
    intro x4 S r h
    cases h
  | succ n ih =>
    intro x4 S r h
    replace h : B_Plan_isWantedByOther_3 N  (F_Plan_isWantedByOther_3 N  x0 x1 x2 x3 n) x0 x1 x2 x3 x4 S = some r := h
    have hrec3 := ih
    generalize F_Plan_isWantedByOther_3 N  x0 x1 x2 x3 n = rec3 at h hrec3
    unfold B_Plan_isWantedByOther_3 at h
    refine pE_jump 2 (pc' := 7) (ls' := [some (.ref x0), some (.int x1), some (.int x2), some (.int x3), some (.int x4), none, none]) (st' := [.int 10, .int x4]) (fun _ => rfl) ?_
    refine pE_br (10 ≤ x4) rfl rfl (fun c15 => ?_) (fun c15 => ?_)
    · rw [if_pos c15] at h
      refine pE_weak [none, none, none, none, none, none, none] trivial ?_
      exact f_Plan_isWantedByOther_78 sp d N S _ h
    · rw [if_neg c15] at h
      refine pE_jump 1 (pc' := 11) (ls' := [some (.ref x0), some (.int x1), some (.int x2), some (.int x3), some (.int x4), none, none]) (st' := [.ref x0]) (fun _ => rfl) ?_
      obtain ⟨oq1, hq1, h⟩ := obind h
      cases oq1 with
      | none => cases h
      | some q1 =>
        try dsimp only at h
        refine pE_gfS rfl rfl hq1 ?_
        obtain ⟨oq2, hq2, h⟩ := obind h
        cases oq2 with
        | none => cases h
        | some q2 =>
          try dsimp only at h
          refine pE_gfS rfl rfl hq2 ?_
          refine pE_jump 1 (pc' := 19) (ls' := [some (.ref x0), some (.int x1), some (.int x2), some (.int x3), some (.int x4), none, none]) (st' := [.int x4, .ref q2]) (fun _ => rfl) ?_
          obtain ⟨⟨v4, S3⟩, hv4, h⟩ := obind h
          try dsimp only at h
          refine pE_is (Bs := [.ref q2, .int x4]) (st := []) rfl rfl rfl (Nat.le_of_ble_eq_true rfl) (Nat.le_of_ble_eq_true rfl) (f_BP_valueAt sp d N S q2 x4 _ hv4) ?_
          refine pE_jump 3 (pc' := 27) (ls' := [some (.ref x0), some (.int x1), some (.int x2), some (.int x3), some (.int x4), some (.int v4), none]) (st' := [.int (-1), .int v4]) (fun _ => rfl) ?_
          refine pE_br (v4 = (-1)) rfl rfl (fun c14 => ?_) (fun c14 => ?_)
          · rw [if_pos c14] at h
            refine pE_weak [some (.ref x0), some (.int x1), some (.int x2), some (.int x3), some (.int x4), none, none] ⟨rfl, ⟨rfl, ⟨rfl, ⟨rfl, ⟨rfl, trivial⟩⟩⟩⟩⟩ ?_
            exact f_Plan_isWantedByOther_43 sp d N rec3 x0 x1 x2 x3 x4 S3 hrec3 _ h
          · rw [if_neg c14] at h
            refine pE_jump 1 (pc' := 32) (ls' := [some (.ref x0), some (.int x1), some (.int x2), some (.int x3), some (.int x4), some (.int v4), none]) (st' := [.int v4]) (fun _ => rfl) ?_
            obtain ⟨⟨v12, S11⟩, hv12, h⟩ := obind h
            try dsimp only at h
            refine pE_is (Bs := [.int v4]) (st := []) rfl rfl rfl (Nat.le_of_ble_eq_true rfl) (Nat.le_of_ble_eq_true rfl) (f_BP_cableOf sp d N S3 v4 _ hv12) ?_
            refine pE_jump 1 (pc' := 36) (ls' := [some (.ref x0), some (.int x1), some (.int x2), some (.int x3), some (.int x4), some (.int v4), none]) (st' := [.int x1, .int v12]) (fun _ => rfl) ?_
            refine pE_br (¬ v12 = x1) rfl rfl (fun c13 => ?_) (fun c13 => ?_)
            · rw [if_neg c13] at h
              refine pE_weak [some (.ref x0), some (.int x1), some (.int x2), some (.int x3), some (.int x4), none, none] ⟨rfl, ⟨rfl, ⟨rfl, ⟨rfl, ⟨rfl, trivial⟩⟩⟩⟩⟩ ?_
              exact f_Plan_isWantedByOther_43 sp d N rec3 x0 x1 x2 x3 x4 S11 hrec3 _ h
            · have c13 := Decidable.not_not.mp c13
              rw [if_pos c13] at h
              refine pE_jump 2 (pc' := 44) (ls' := [some (.ref x0), some (.int x1), some (.int x2), some (.int x3), some (.int x4), some (.int v4), none]) (st' := [.int 1]) (fun _ => rfl) ?_
              refine pE_weak [some (.ref x0), some (.int x1), some (.int x2), some (.int x3), some (.int x4), none, none] ⟨rfl, ⟨rfl, ⟨rfl, ⟨rfl, ⟨rfl, trivial⟩⟩⟩⟩⟩ ?_
              exact f_Plan_isWantedByOther_44 sp d N rec3 x0 x1 x2 x3 x4 1 S11 hrec3 _ h
def F_Plan_isWantedByOther (N : Nat) (S : pm_S) (a : Nat) (p0 : Int32) (p1 : Int32) (p2 : Int32) : Option (Int32 × pm_S) :=
    if rcv S a 4 = true then
    (F_Plan_isWantedByOther_3 N a p0 p1 p2 N 0 S)
    else none
theorem g_Plan_isWantedByOther {N : Nat} {S : pm_S} {a : Nat} {p0 : Int32} {p1 : Int32} {p2 : Int32} {r : (Int32 × pm_S)} (h : F_Plan_isWantedByOther N S a p0 p1 p2 = some r) : rcv S a 4 = true := by
  unfold F_Plan_isWantedByOther at h
  by_cases c : rcv S a 4 = true
  · exact c
  · rw [if_neg c] at h; cases h
set_option maxHeartbeats 4000000 in
set_option maxRecDepth 20000 in
theorem f_Plan_isWantedByOther (sp : pm_I → List Value → pm_S → pm_O → Prop) (d N : Nat) (S : pm_S) (a : Nat) (p0 : Int32) (p1 : Int32) (p2 : Int32) (r : (Int32 × pm_S)) (h : F_Plan_isWantedByOther N S a p0 p1 p2 = some r) : pm_rel pG sp (d + 2) mi_Plan_isWantedByOther [.ref a, .int p0, .int p1, .int p2] S (some (.int r.1), r.2) := by
  have hg := g_Plan_isWantedByOther h
  unfold F_Plan_isWantedByOther at h
  rw [if_pos hg] at h
  refine pE_rel (d := d + 1) ?_
  show pmE pG _ mi_Plan_isWantedByOther 0 [some (.ref a), some (.int p0), some (.int p1), some (.int p2), none, none, none] [] S _
  refine pE_jump 2 (pc' := 3) (ls' := [some (.ref a), some (.int p0), some (.int p1), some (.int p2), some (.int 0), none, none]) (st' := []) (fun _ => rfl) ?_
  exact f_Plan_isWantedByOther_3 sp d N a p0 p1 p2 N 0 S _ h
