def F_Tape_size (N : Nat) (S : pm_S) (a : Nat) : Option (Int32 × pm_S) :=
    if rcv S a 6 = true then
    ((oI S a 6 1).bind fun v1 =>
    some (v1, S))
    else none
theorem g_Tape_size {N : Nat} {S : pm_S} {a : Nat} {r : (Int32 × pm_S)} (h : F_Tape_size N S a = some r) : rcv S a 6 = true := by
  unfold F_Tape_size at h
  by_cases c : rcv S a 6 = true
  · exact c
  · rw [if_neg c] at h; cases h
set_option maxHeartbeats 4000000 in
set_option maxRecDepth 20000 in
theorem f_Tape_size (sp : pm_I → List Value → pm_S → pm_O → Prop) (d N : Nat) (S : pm_S) (a : Nat) (r : (Int32 × pm_S)) (h : F_Tape_size N S a = some r) : pm_rel pG sp (d + 1) mi_Tape_size [.ref a] S (some (.int r.1), r.2) := by
  have hg := g_Tape_size h
  unfold F_Tape_size at h
  rw [if_pos hg] at h
  refine pE_rel (d := d + 0) ?_
  show pmE pG _ mi_Tape_size 0 [some (.ref a)] [] S _
  refine pE_jump 1 (pc' := 1) (ls' := [some (.ref a)]) (st' := [.ref a]) (fun _ => rfl) ?_
  obtain ⟨v1, hv1, h⟩ := obind h
  refine pE_gfI rfl rfl hv1 ?_
  cases h
  exact pE_ret rfl rfl rfl
def F_BP_setAt_14 (N : Nat)   (S : pm_S) : Option pm_S :=
    some S
set_option maxHeartbeats 4000000 in
set_option maxRecDepth 20000 in
theorem f_BP_setAt_14 (sp : pm_I → List Value → pm_S → pm_O → Prop) (d N : Nat)   (S : pm_S)  (r : pm_S) (h : F_BP_setAt_14 N   S = some r) : pmE pG (pm_rel pG sp (d + 0)) mi_BP_setAt 14 [none, none, none] [] S (none, r) := by
  unfold F_BP_setAt_14 at h
  cases h
  exact pE_ret rfl rfl rfl
def F_BP_setAt (N : Nat) (S : pm_S) (p0 : Nat) (p1 : Int32) (p2 : Int32) : Option pm_S :=
    if p1 < 0 then
    F_BP_setAt_14 N S
    else
    ((aNS S p0).bind fun v1 =>
    if v1 ≤ p1 then
    F_BP_setAt_14 N S
    else
    ((sI [0] S p0 p1 p2).bind fun S2 =>
    F_BP_setAt_14 N S2))
set_option maxHeartbeats 4000000 in
set_option maxRecDepth 20000 in
theorem f_BP_setAt (sp : pm_I → List Value → pm_S → pm_O → Prop) (d N : Nat) (S : pm_S) (p0 : Nat) (p1 : Int32) (p2 : Int32) (r : pm_S) (h : F_BP_setAt N S p0 p1 p2 = some r) : pm_rel pG sp (d + 1) mi_BP_setAt [.ref p0, .int p1, .int p2] S (none, r) := by
  unfold F_BP_setAt at h
  refine pE_rel (d := d + 0) ?_
  show pmE pG _ mi_BP_setAt 0 [some (.ref p0), some (.int p1), some (.int p2)] [] S _
  refine pE_jump 1 (pc' := 1) (ls' := [some (.ref p0), some (.int p1), some (.int p2)]) (st' := [.int p1]) (fun _ => rfl) ?_
  refine pE_br (p1 < 0) rfl rfl (fun c4 => ?_) (fun c4 => ?_)
  · rw [if_pos c4] at h
    refine pE_weak [none, none, none] trivial ?_
    exact f_BP_setAt_14 sp d N S _ h
  · rw [if_neg c4] at h
    refine pE_jump 2 (pc' := 6) (ls' := [some (.ref p0), some (.int p1), some (.int p2)]) (st' := [.ref p0, .int p1]) (fun _ => rfl) ?_
    obtain ⟨v1, hv1, h⟩ := obind h
    refine pE_aN rfl hv1 ?_
    refine pE_br (v1 ≤ p1) rfl rfl (fun c3 => ?_) (fun c3 => ?_)
    · rw [if_pos c3] at h
      refine pE_weak [none, none, none] trivial ?_
      exact f_BP_setAt_14 sp d N S _ h
    · rw [if_neg c3] at h
      refine pE_jump 3 (pc' := 13) (ls' := [some (.ref p0), some (.int p1), some (.int p2)]) (st' := [.int p2, .int p1, .ref p0]) (fun _ => rfl) ?_
      obtain ⟨S2, hS2, h⟩ := obind h
      refine pE_sI rfl rfl hS2 ?_
      refine pE_weak [none, none, none] trivial ?_
      exact f_BP_setAt_14 sp d N S2 _ h
def F_Tape_take_59 (N : Nat)   (S : pm_S) : Option pm_S :=
    some S
set_option maxHeartbeats 4000000 in
set_option maxRecDepth 20000 in
theorem f_Tape_take_59 (sp : pm_I → List Value → pm_S → pm_O → Prop) (d N : Nat)   (S : pm_S)  (r : pm_S) (h : F_Tape_take_59 N   S = some r) : pmE pG (pm_rel pG sp (d + 1)) mi_Tape_take 59 [none, none, none, none] [] S (none, r) := by
  unfold F_Tape_take_59 at h
  cases h
  exact pE_ret rfl rfl rfl
def F_Tape_take_53 (N : Nat) (rec3 : Int32 → pm_S → Option pm_S) (x0 : Nat) (x1 : Int32) (x2 : Int32) (S : pm_S) : Option pm_S :=
    rec3 (x2 + (-8)) S
set_option maxHeartbeats 4000000 in
set_option maxRecDepth 20000 in
theorem f_Tape_take_53 (sp : pm_I → List Value → pm_S → pm_O → Prop) (d N : Nat) (rec3 : Int32 → pm_S → Option pm_S) (x0 : Nat) (x1 : Int32) (x2 : Int32) (S : pm_S) (hrec3 : ∀ (y1 : Int32) (U : pm_S) (r : pm_S), rec3 y1 U = some r → pmE pG (pm_rel pG sp (d + 1)) mi_Tape_take 3 [some (.ref x0), some (.int x1), some (.int y1), none] [] U (none, r)) (r : pm_S) (h : F_Tape_take_53 N rec3 x0 x1 x2 S = some r) : pmE pG (pm_rel pG sp (d + 1)) mi_Tape_take 53 [some (.ref x0), some (.int x1), some (.int x2), none] [] S (none, r) := by
  unfold F_Tape_take_53 at h
  refine pE_iinc (y := -8) (ls' := [some (.ref x0), some (.int x1), some (.int (x2 + (-8))), none]) rfl rfl (Nat.le_of_ble_eq_true rfl) (by decide) rfl ?_
  refine pE_jump 1 (pc' := 3) (ls' := [some (.ref x0), some (.int x1), some (.int (x2 + (-8))), none]) (st' := []) (fun _ => rfl) ?_
  exact hrec3 (x2 + (-8)) S _ h
def B_Tape_take_3 (N : Nat)  (rec3 : Int32 → pm_S → Option pm_S) (x0 : Nat) (x1 : Int32) (x2 : Int32) (S : pm_S) : Option pm_S :=
    if x2 < 0 then
    F_Tape_take_59 N S
    else
    (if (((x1.toUInt32 >>> (Int32.toUInt32 x2 &&& Int32.toUInt32 31)).toInt32) &&& 255) = 0 then
    F_Tape_take_53 N rec3 x0 x1 x2 S
    else
    ((oI S x0 6 1).bind fun v1 =>
    (oR S x0 6 0).bind fun oq2 => match oq2 with
    | none => none
    | some q2 =>
    (aNS S q2).bind fun v3 =>
    if v3 ≤ v1 then
    F_Tape_take_53 N rec3 x0 x1 x2 S
    else
    ((oR S x0 6 0).bind fun oq4 => match oq4 with
    | none => none
    | some q4 =>
    (oI S x0 6 1).bind fun v6 =>
    (F_BP_setAt N S q4 v6 (((x1.toUInt32 >>> (Int32.toUInt32 x2 &&& Int32.toUInt32 31)).toInt32) &&& 255)).bind fun S7 =>
    (oI S7 x0 6 1).bind fun v8 =>
    (wF S7 x0 6 1 .int (.int (v8 + 1))).bind fun S9 =>
    F_Tape_take_53 N rec3 x0 x1 x2 S9)))
def F_Tape_take_3 (N : Nat)  (x0 : Nat) (x1 : Int32) : Nat → Int32 → pm_S → Option pm_S
  | 0 => fun _ _ => none
  | n + 1 => fun x2 S => B_Tape_take_3 N  (F_Tape_take_3 N  x0 x1 n) x0 x1 x2 S
set_option maxHeartbeats 4000000 in
set_option maxRecDepth 20000 in
theorem f_Tape_take_3 (sp : pm_I → List Value → pm_S → pm_O → Prop) (d N : Nat)  (x0 : Nat) (x1 : Int32)  : ∀ (n : Nat) (x2 : Int32) (S : pm_S) (r : pm_S), F_Tape_take_3 N  x0 x1 n x2 S = some r → pmE pG (pm_rel pG sp (d + 1)) mi_Tape_take 3 [some (.ref x0), some (.int x1), some (.int x2), none] [] S (none, r) := by
  intro n
  induction n with
  | zero =>
    intro x2 S r h
    cases h
  | succ n ih =>
    intro x2 S r h
    replace h : B_Tape_take_3 N  (F_Tape_take_3 N  x0 x1 n) x0 x1 x2 S = some r := h
    have hrec3 := ih
    generalize F_Tape_take_3 N  x0 x1 n = rec3 at h hrec3
    unfold B_Tape_take_3 at h
    refine pE_jump 1 (pc' := 4) (ls' := [some (.ref x0), some (.int x1), some (.int x2), none]) (st' := [.int x2]) (fun _ => rfl) ?_
    refine pE_br (x2 < 0) rfl rfl (fun c12 => ?_) (fun c12 => ?_)
    · rw [if_pos c12] at h
      refine pE_weak [none, none, none, none] trivial ?_
      exact f_Tape_take_59 sp d N S _ h
    · rw [if_neg c12] at h
      refine pE_jump 7 (pc' := 16) (ls' := [some (.ref x0), some (.int x1), some (.int x2), some (.int (((x1.toUInt32 >>> (Int32.toUInt32 x2 &&& Int32.toUInt32 31)).toInt32) &&& 255))]) (st' := [.int (((x1.toUInt32 >>> (Int32.toUInt32 x2 &&& Int32.toUInt32 31)).toInt32) &&& 255)]) (fun _ => rfl) ?_
      refine pE_br ((((x1.toUInt32 >>> (Int32.toUInt32 x2 &&& Int32.toUInt32 31)).toInt32) &&& 255) = 0) rfl rfl (fun c11 => ?_) (fun c11 => ?_)
      · rw [if_pos c11] at h
        refine pE_weak [some (.ref x0), some (.int x1), some (.int x2), none] ⟨rfl, ⟨rfl, ⟨rfl, trivial⟩⟩⟩ ?_
        exact f_Tape_take_53 sp d N rec3 x0 x1 x2 S hrec3 _ h
      · rw [if_neg c11] at h
        refine pE_jump 1 (pc' := 20) (ls' := [some (.ref x0), some (.int x1), some (.int x2), some (.int (((x1.toUInt32 >>> (Int32.toUInt32 x2 &&& Int32.toUInt32 31)).toInt32) &&& 255))]) (st' := [.ref x0]) (fun _ => rfl) ?_
        obtain ⟨v1, hv1, h⟩ := obind h
        refine pE_gfI rfl rfl hv1 ?_
        refine pE_jump 1 (pc' := 24) (ls' := [some (.ref x0), some (.int x1), some (.int x2), some (.int (((x1.toUInt32 >>> (Int32.toUInt32 x2 &&& Int32.toUInt32 31)).toInt32) &&& 255))]) (st' := [.ref x0, .int v1]) (fun _ => rfl) ?_
        obtain ⟨oq2, hq2, h⟩ := obind h
        cases oq2 with
        | none => cases h
        | some q2 =>
          try dsimp only at h
          refine pE_gfS rfl rfl hq2 ?_
          obtain ⟨v3, hv3, h⟩ := obind h
          refine pE_aN rfl hv3 ?_
          refine pE_br (v3 ≤ v1) rfl rfl (fun c10 => ?_) (fun c10 => ?_)
          · rw [if_pos c10] at h
            refine pE_weak [some (.ref x0), some (.int x1), some (.int x2), none] ⟨rfl, ⟨rfl, ⟨rfl, trivial⟩⟩⟩ ?_
            exact f_Tape_take_53 sp d N rec3 x0 x1 x2 S hrec3 _ h
          · rw [if_neg c10] at h
            refine pE_jump 1 (pc' := 32) (ls' := [some (.ref x0), some (.int x1), some (.int x2), some (.int (((x1.toUInt32 >>> (Int32.toUInt32 x2 &&& Int32.toUInt32 31)).toInt32) &&& 255))]) (st' := [.ref x0]) (fun _ => rfl) ?_
            obtain ⟨oq4, hq4, h⟩ := obind h
            cases oq4 with
            | none => cases h
            | some q4 =>
              try dsimp only at h
              refine pE_gfS rfl rfl hq4 ?_
              refine pE_jump 1 (pc' := 36) (ls' := [some (.ref x0), some (.int x1), some (.int x2), some (.int (((x1.toUInt32 >>> (Int32.toUInt32 x2 &&& Int32.toUInt32 31)).toInt32) &&& 255))]) (st' := [.ref x0, .ref q4]) (fun _ => rfl) ?_
              obtain ⟨v6, hv6, h⟩ := obind h
              refine pE_gfI rfl rfl hv6 ?_
              refine pE_jump 1 (pc' := 40) (ls' := [some (.ref x0), some (.int x1), some (.int x2), some (.int (((x1.toUInt32 >>> (Int32.toUInt32 x2 &&& Int32.toUInt32 31)).toInt32) &&& 255))]) (st' := [.int (((x1.toUInt32 >>> (Int32.toUInt32 x2 &&& Int32.toUInt32 31)).toInt32) &&& 255), .int v6, .ref q4]) (fun _ => rfl) ?_
              obtain ⟨S7, hS7, h⟩ := obind h
              refine pE_is (Bs := [.ref q4, .int v6, .int (((x1.toUInt32 >>> (Int32.toUInt32 x2 &&& Int32.toUInt32 31)).toInt32) &&& 255)]) (st := []) rfl rfl rfl (Nat.le_of_ble_eq_true rfl) (Nat.le_of_ble_eq_true rfl) (f_BP_setAt sp d N S q4 v6 (((x1.toUInt32 >>> (Int32.toUInt32 x2 &&& Int32.toUInt32 31)).toInt32) &&& 255) _ hS7) ?_
              refine pE_jump 2 (pc' := 45) (ls' := [some (.ref x0), some (.int x1), some (.int x2), some (.int (((x1.toUInt32 >>> (Int32.toUInt32 x2 &&& Int32.toUInt32 31)).toInt32) &&& 255))]) (st' := [.ref x0, .ref x0]) (fun _ => rfl) ?_
              obtain ⟨v8, hv8, h⟩ := obind h
              refine pE_gfI rfl rfl hv8 ?_
              refine pE_jump 2 (pc' := 50) (ls' := [some (.ref x0), some (.int x1), some (.int x2), some (.int (((x1.toUInt32 >>> (Int32.toUInt32 x2 &&& Int32.toUInt32 31)).toInt32) &&& 255))]) (st' := [.int (v8 + 1), .ref x0]) (fun _ => rfl) ?_
              obtain ⟨S9, hS9, h⟩ := obind h
              refine pE_pf rfl rfl rfl hS9 ?_
              refine pE_weak [some (.ref x0), some (.int x1), some (.int x2), none] ⟨rfl, ⟨rfl, ⟨rfl, trivial⟩⟩⟩ ?_
              exact f_Tape_take_53 sp d N rec3 x0 x1 x2 S9 hrec3 _ h
def F_Tape_take (N : Nat) (S : pm_S) (a : Nat) (p0 : Int32) : Option pm_S :=
    if rcv S a 6 = true then
    (F_Tape_take_3 N a p0 N 24 S)
    else none
theorem g_Tape_take {N : Nat} {S : pm_S} {a : Nat} {p0 : Int32} {r : pm_S} (h : F_Tape_take N S a p0 = some r) : rcv S a 6 = true := by
  unfold F_Tape_take at h
  by_cases c : rcv S a 6 = true
  · exact c
  · rw [if_neg c] at h; cases h
set_option maxHeartbeats 4000000 in
set_option maxRecDepth 20000 in
theorem f_Tape_take (sp : pm_I → List Value → pm_S → pm_O → Prop) (d N : Nat) (S : pm_S) (a : Nat) (p0 : Int32) (r : pm_S) (h : F_Tape_take N S a p0 = some r) : pm_rel pG sp (d + 2) mi_Tape_take [.ref a, .int p0] S (none, r) := by
  have hg := g_Tape_take h
  unfold F_Tape_take at h
  rw [if_pos hg] at h
  refine pE_rel (d := d + 1) ?_
  show pmE pG _ mi_Tape_take 0 [some (.ref a), some (.int p0), none, none] [] S _
  refine pE_jump 2 (pc' := 3) (ls' := [some (.ref a), some (.int p0), some (.int 24), none]) (st' := []) (fun _ => rfl) ?_
  exact f_Tape_take_3 sp d N a p0 N 24 S _ h
def F_BP_feed (N : Nat) (S : pm_S) (a : Nat) (p0 : Int32) (p1 : Int32) (p2 : Int32) (p3 : Int32) (p4 : Int32) : Option (Int32 × pm_S) :=
    if rcv S a 10 = true then
    ((F_BP_bytesIn N S p0).bind fun (v2, S1) =>
    (F_BP_bytesIn N S1 p1).bind fun (v4, S3) =>
    (F_BP_bytesIn N S3 p2).bind fun (v6, S5) =>
    (F_BP_bytesIn N S5 p3).bind fun (v8, S7) =>
    (F_BP_bytesIn N S7 p4).bind fun (v10, S9) =>
    (oR S9 a 10 0).bind fun oq11 => match oq11 with
    | none => none
    | some q11 =>
    (F_Tape_size N S9 q11).bind fun (v13, S12) =>
    if (v13 + ((((v2 + v4) + v6) + v8) + v10)) ≤ 300 then
    ((oR S12 a 10 0).bind fun oq14 => match oq14 with
    | none => none
    | some q14 =>
    (F_Tape_take N S12 q14 p0).bind fun S15 =>
    (oR S15 a 10 0).bind fun oq16 => match oq16 with
    | none => none
    | some q16 =>
    (F_Tape_take N S15 q16 p1).bind fun S17 =>
    (oR S17 a 10 0).bind fun oq18 => match oq18 with
    | none => none
    | some q18 =>
    (F_Tape_take N S17 q18 p2).bind fun S19 =>
    (oR S19 a 10 0).bind fun oq20 => match oq20 with
    | none => none
    | some q20 =>
    (F_Tape_take N S19 q20 p3).bind fun S21 =>
    (oR S21 a 10 0).bind fun oq22 => match oq22 with
    | none => none
    | some q22 =>
    (F_Tape_take N S21 q22 p4).bind fun S23 =>
    (oR S23 a 10 0).bind fun oq24 => match oq24 with
    | none => none
    | some q24 =>
    (F_Tape_size N S23 q24).bind fun (v26, S25) =>
    some (v26, S25))
    else
    some ((-1), S12))
    else none
theorem g_BP_feed {N : Nat} {S : pm_S} {a : Nat} {p0 : Int32} {p1 : Int32} {p2 : Int32} {p3 : Int32} {p4 : Int32} {r : (Int32 × pm_S)} (h : F_BP_feed N S a p0 p1 p2 p3 p4 = some r) : rcv S a 10 = true := by
  unfold F_BP_feed at h
  by_cases c : rcv S a 10 = true
  · exact c
  · rw [if_neg c] at h; cases h
set_option maxHeartbeats 4000000 in
set_option maxRecDepth 20000 in
theorem f_BP_feed (sp : pm_I → List Value → pm_S → pm_O → Prop) (d N : Nat) (S : pm_S) (a : Nat) (p0 : Int32) (p1 : Int32) (p2 : Int32) (p3 : Int32) (p4 : Int32) (r : (Int32 × pm_S)) (h : F_BP_feed N S a p0 p1 p2 p3 p4 = some r) : pm_rel pG sp (d + 3) mi_BP_feed [.ref a, .int p0, .int p1, .int p2, .int p3, .int p4] S (some (.int r.1), r.2) := by
  have hg := g_BP_feed h
  unfold F_BP_feed at h
  rw [if_pos hg] at h
  refine pE_rel (d := d + 2) ?_
  show pmE pG _ mi_BP_feed 0 [some (.ref a), some (.int p0), some (.int p1), some (.int p2), some (.int p3), some (.int p4), none] [] S _
  refine pE_jump 1 (pc' := 1) (ls' := [some (.ref a), some (.int p0), some (.int p1), some (.int p2), some (.int p3), some (.int p4), none]) (st' := [.int p0]) (fun _ => rfl) ?_
  obtain ⟨⟨v2, S1⟩, hv2, h⟩ := obind h
  try dsimp only at h
  refine pE_is (Bs := [.int p0]) (st := []) rfl rfl rfl (Nat.le_of_ble_eq_true rfl) (Nat.le_of_ble_eq_true rfl) (f_BP_bytesIn sp (d + 1) N S p0 _ hv2) ?_
  refine pE_jump 1 (pc' := 5) (ls' := [some (.ref a), some (.int p0), some (.int p1), some (.int p2), some (.int p3), some (.int p4), none]) (st' := [.int p1, .int v2]) (fun _ => rfl) ?_
  obtain ⟨⟨v4, S3⟩, hv4, h⟩ := obind h
  try dsimp only at h
  refine pE_is (Bs := [.int p1]) (st := [.int v2]) rfl rfl rfl (Nat.le_of_ble_eq_true rfl) (Nat.le_of_ble_eq_true rfl) (f_BP_bytesIn sp (d + 1) N S1 p1 _ hv4) ?_
  refine pE_jump 2 (pc' := 10) (ls' := [some (.ref a), some (.int p0), some (.int p1), some (.int p2), some (.int p3), some (.int p4), none]) (st' := [.int p2, .int (v2 + v4)]) (fun _ => rfl) ?_
  obtain ⟨⟨v6, S5⟩, hv6, h⟩ := obind h
  try dsimp only at h
  refine pE_is (Bs := [.int p2]) (st := [.int (v2 + v4)]) rfl rfl rfl (Nat.le_of_ble_eq_true rfl) (Nat.le_of_ble_eq_true rfl) (f_BP_bytesIn sp (d + 1) N S3 p2 _ hv6) ?_
  refine pE_jump 2 (pc' := 16) (ls' := [some (.ref a), some (.int p0), some (.int p1), some (.int p2), some (.int p3), some (.int p4), none]) (st' := [.int p3, .int ((v2 + v4) + v6)]) (fun _ => rfl) ?_
  obtain ⟨⟨v8, S7⟩, hv8, h⟩ := obind h
  try dsimp only at h
  refine pE_is (Bs := [.int p3]) (st := [.int ((v2 + v4) + v6)]) rfl rfl rfl (Nat.le_of_ble_eq_true rfl) (Nat.le_of_ble_eq_true rfl) (f_BP_bytesIn sp (d + 1) N S5 p3 _ hv8) ?_
  refine pE_jump 2 (pc' := 22) (ls' := [some (.ref a), some (.int p0), some (.int p1), some (.int p2), some (.int p3), some (.int p4), none]) (st' := [.int p4, .int (((v2 + v4) + v6) + v8)]) (fun _ => rfl) ?_
  obtain ⟨⟨v10, S9⟩, hv10, h⟩ := obind h
  try dsimp only at h
  refine pE_is (Bs := [.int p4]) (st := [.int (((v2 + v4) + v6) + v8)]) rfl rfl rfl (Nat.le_of_ble_eq_true rfl) (Nat.le_of_ble_eq_true rfl) (f_BP_bytesIn sp (d + 1) N S7 p4 _ hv10) ?_
  refine pE_jump 3 (pc' := 29) (ls' := [some (.ref a), some (.int p0), some (.int p1), some (.int p2), some (.int p3), some (.int p4), some (.int ((((v2 + v4) + v6) + v8) + v10))]) (st' := [.ref a]) (fun _ => rfl) ?_
  obtain ⟨oq11, hq11, h⟩ := obind h
  cases oq11 with
  | none => cases h
  | some q11 =>
    try dsimp only at h
    refine pE_gfS rfl rfl hq11 ?_
    obtain ⟨⟨v13, S12⟩, hv13, h⟩ := obind h
    try dsimp only at h
    refine pE_iv (Bs := []) (st := []) 1 rfl (Or.inl ⟨rfl, rfl⟩) rfl rfl (Nat.le_of_ble_eq_true rfl) (Nat.le_of_ble_eq_true rfl) (g_Tape_size hv13) (f_Tape_size sp (d + 1) N S9 q11 _ hv13) ?_
    refine pE_jump 3 (pc' := 41) (ls' := [some (.ref a), some (.int p0), some (.int p1), some (.int p2), some (.int p3), some (.int p4), some (.int ((((v2 + v4) + v6) + v8) + v10))]) (st' := [.int 300, .int (v13 + ((((v2 + v4) + v6) + v8) + v10))]) (fun _ => rfl) ?_
    refine pE_br ((v13 + ((((v2 + v4) + v6) + v8) + v10)) ≤ 300) rfl rfl (fun c27 => ?_) (fun c27 => ?_)
    · rw [if_pos c27] at h
      refine pE_jump 1 (pc' := 47) (ls' := [some (.ref a), some (.int p0), some (.int p1), some (.int p2), some (.int p3), some (.int p4), some (.int ((((v2 + v4) + v6) + v8) + v10))]) (st' := [.ref a]) (fun _ => rfl) ?_
      obtain ⟨oq14, hq14, h⟩ := obind h
      cases oq14 with
      | none => cases h
      | some q14 =>
        try dsimp only at h
        refine pE_gfS rfl rfl hq14 ?_
        refine pE_jump 1 (pc' := 51) (ls' := [some (.ref a), some (.int p0), some (.int p1), some (.int p2), some (.int p3), some (.int p4), some (.int ((((v2 + v4) + v6) + v8) + v10))]) (st' := [.int p0, .ref q14]) (fun _ => rfl) ?_
        obtain ⟨S15, hS15, h⟩ := obind h
        refine pE_iv (Bs := [.int p0]) (st := []) 1 rfl (Or.inl ⟨rfl, rfl⟩) rfl rfl (Nat.le_of_ble_eq_true rfl) (Nat.le_of_ble_eq_true rfl) (g_Tape_take hS15) (f_Tape_take sp d N S12 q14 p0 _ hS15) ?_
        refine pE_jump 1 (pc' := 55) (ls' := [some (.ref a), some (.int p0), some (.int p1), some (.int p2), some (.int p3), some (.int p4), some (.int ((((v2 + v4) + v6) + v8) + v10))]) (st' := [.ref a]) (fun _ => rfl) ?_
        obtain ⟨oq16, hq16, h⟩ := obind h
        cases oq16 with
        | none => cases h
        | some q16 =>
          try dsimp only at h
          refine pE_gfS rfl rfl hq16 ?_
          refine pE_jump 1 (pc' := 59) (ls' := [some (.ref a), some (.int p0), some (.int p1), some (.int p2), some (.int p3), some (.int p4), some (.int ((((v2 + v4) + v6) + v8) + v10))]) (st' := [.int p1, .ref q16]) (fun _ => rfl) ?_
          obtain ⟨S17, hS17, h⟩ := obind h
          refine pE_iv (Bs := [.int p1]) (st := []) 1 rfl (Or.inl ⟨rfl, rfl⟩) rfl rfl (Nat.le_of_ble_eq_true rfl) (Nat.le_of_ble_eq_true rfl) (g_Tape_take hS17) (f_Tape_take sp d N S15 q16 p1 _ hS17) ?_
          refine pE_jump 1 (pc' := 63) (ls' := [some (.ref a), some (.int p0), some (.int p1), some (.int p2), some (.int p3), some (.int p4), some (.int ((((v2 + v4) + v6) + v8) + v10))]) (st' := [.ref a]) (fun _ => rfl) ?_
          obtain ⟨oq18, hq18, h⟩ := obind h
          cases oq18 with
          | none => cases h
          | some q18 =>
            try dsimp only at h
            refine pE_gfS rfl rfl hq18 ?_
            refine pE_jump 1 (pc' := 67) (ls' := [some (.ref a), some (.int p0), some (.int p1), some (.int p2), some (.int p3), some (.int p4), some (.int ((((v2 + v4) + v6) + v8) + v10))]) (st' := [.int p2, .ref q18]) (fun _ => rfl) ?_
            obtain ⟨S19, hS19, h⟩ := obind h
            refine pE_iv (Bs := [.int p2]) (st := []) 1 rfl (Or.inl ⟨rfl, rfl⟩) rfl rfl (Nat.le_of_ble_eq_true rfl) (Nat.le_of_ble_eq_true rfl) (g_Tape_take hS19) (f_Tape_take sp d N S17 q18 p2 _ hS19) ?_
            refine pE_jump 1 (pc' := 71) (ls' := [some (.ref a), some (.int p0), some (.int p1), some (.int p2), some (.int p3), some (.int p4), some (.int ((((v2 + v4) + v6) + v8) + v10))]) (st' := [.ref a]) (fun _ => rfl) ?_
            obtain ⟨oq20, hq20, h⟩ := obind h
            cases oq20 with
            | none => cases h
            | some q20 =>
              try dsimp only at h
              refine pE_gfS rfl rfl hq20 ?_
              refine pE_jump 1 (pc' := 76) (ls' := [some (.ref a), some (.int p0), some (.int p1), some (.int p2), some (.int p3), some (.int p4), some (.int ((((v2 + v4) + v6) + v8) + v10))]) (st' := [.int p3, .ref q20]) (fun _ => rfl) ?_
              obtain ⟨S21, hS21, h⟩ := obind h
              refine pE_iv (Bs := [.int p3]) (st := []) 1 rfl (Or.inl ⟨rfl, rfl⟩) rfl rfl (Nat.le_of_ble_eq_true rfl) (Nat.le_of_ble_eq_true rfl) (g_Tape_take hS21) (f_Tape_take sp d N S19 q20 p3 _ hS21) ?_
              refine pE_jump 1 (pc' := 80) (ls' := [some (.ref a), some (.int p0), some (.int p1), some (.int p2), some (.int p3), some (.int p4), some (.int ((((v2 + v4) + v6) + v8) + v10))]) (st' := [.ref a]) (fun _ => rfl) ?_
              obtain ⟨oq22, hq22, h⟩ := obind h
              cases oq22 with
              | none => cases h
              | some q22 =>
                try dsimp only at h
                refine pE_gfS rfl rfl hq22 ?_
                refine pE_jump 1 (pc' := 85) (ls' := [some (.ref a), some (.int p0), some (.int p1), some (.int p2), some (.int p3), some (.int p4), some (.int ((((v2 + v4) + v6) + v8) + v10))]) (st' := [.int p4, .ref q22]) (fun _ => rfl) ?_
                obtain ⟨S23, hS23, h⟩ := obind h
                refine pE_iv (Bs := [.int p4]) (st := []) 1 rfl (Or.inl ⟨rfl, rfl⟩) rfl rfl (Nat.le_of_ble_eq_true rfl) (Nat.le_of_ble_eq_true rfl) (g_Tape_take hS23) (f_Tape_take sp d N S21 q22 p4 _ hS23) ?_
                refine pE_jump 1 (pc' := 89) (ls' := [some (.ref a), some (.int p0), some (.int p1), some (.int p2), some (.int p3), some (.int p4), some (.int ((((v2 + v4) + v6) + v8) + v10))]) (st' := [.ref a]) (fun _ => rfl) ?_
                obtain ⟨oq24, hq24, h⟩ := obind h
                cases oq24 with
                | none => cases h
                | some q24 =>
                  try dsimp only at h
                  refine pE_gfS rfl rfl hq24 ?_
                  obtain ⟨⟨v26, S25⟩, hv26, h⟩ := obind h
                  try dsimp only at h
                  refine pE_iv (Bs := []) (st := []) 1 rfl (Or.inl ⟨rfl, rfl⟩) rfl rfl (Nat.le_of_ble_eq_true rfl) (Nat.le_of_ble_eq_true rfl) (g_Tape_size hv26) (f_Tape_size sp (d + 1) N S23 q24 _ hv26) ?_
                  cases h
                  exact pE_ret rfl rfl rfl
    · rw [if_neg c27] at h
      refine pE_jump 1 (pc' := 45) (ls' := [some (.ref a), some (.int p0), some (.int p1), some (.int p2), some (.int p3), some (.int p4), some (.int ((((v2 + v4) + v6) + v8) + v10))]) (st' := [.int (-1)]) (fun _ => rfl) ?_
      cases h
      exact pE_ret rfl rfl rfl
def F_Tape_cutTo_12 (N : Nat)   (S : pm_S) : Option (Int32 × pm_S) :=
    some (0, S)
set_option maxHeartbeats 4000000 in
set_option maxRecDepth 20000 in
theorem f_Tape_cutTo_12 (sp : pm_I → List Value → pm_S → pm_O → Prop) (d N : Nat)   (S : pm_S)  (r : (Int32 × pm_S)) (h : F_Tape_cutTo_12 N   S = some r) : pmE pG (pm_rel pG sp (d + 0)) mi_Tape_cutTo 12 [none, none] [] S (some (.int r.1), r.2) := by
  unfold F_Tape_cutTo_12 at h
  refine pE_jump 1 (pc' := 13) (ls' := [none, none]) (st' := [.int 0]) (fun _ => rfl) ?_
  cases h
  exact pE_ret rfl rfl rfl
def F_Tape_cutTo (N : Nat) (S : pm_S) (a : Nat) (p0 : Int32) : Option (Int32 × pm_S) :=
    if rcv S a 6 = true then
    (if p0 < 0 then
    F_Tape_cutTo_12 N S
    else
    ((oI S a 6 1).bind fun v1 =>
    if p0 ≤ v1 then
    ((wF S a 6 1 .int (.int p0)).bind fun S2 =>
    some (1, S2))
    else
    F_Tape_cutTo_12 N S))
    else none
theorem g_Tape_cutTo {N : Nat} {S : pm_S} {a : Nat} {p0 : Int32} {r : (Int32 × pm_S)} (h : F_Tape_cutTo N S a p0 = some r) : rcv S a 6 = true := by
  unfold F_Tape_cutTo at h
  by_cases c : rcv S a 6 = true
  · exact c
  · rw [if_neg c] at h; cases h
set_option maxHeartbeats 4000000 in
set_option maxRecDepth 20000 in
theorem f_Tape_cutTo (sp : pm_I → List Value → pm_S → pm_O → Prop) (d N : Nat) (S : pm_S) (a : Nat) (p0 : Int32) (r : (Int32 × pm_S)) (h : F_Tape_cutTo N S a p0 = some r) : pm_rel pG sp (d + 1) mi_Tape_cutTo [.ref a, .int p0] S (some (.int r.1), r.2) := by
  have hg := g_Tape_cutTo h
  unfold F_Tape_cutTo at h
  rw [if_pos hg] at h
  refine pE_rel (d := d + 0) ?_
  show pmE pG _ mi_Tape_cutTo 0 [some (.ref a), some (.int p0)] [] S _
  refine pE_jump 1 (pc' := 1) (ls' := [some (.ref a), some (.int p0)]) (st' := [.int p0]) (fun _ => rfl) ?_
  refine pE_br (p0 < 0) rfl rfl (fun c4 => ?_) (fun c4 => ?_)
  · rw [if_pos c4] at h
    refine pE_weak [none, none] trivial ?_
    exact f_Tape_cutTo_12 sp d N S _ h
  · rw [if_neg c4] at h
    refine pE_jump 2 (pc' := 6) (ls' := [some (.ref a), some (.int p0)]) (st' := [.ref a, .int p0]) (fun _ => rfl) ?_
    obtain ⟨v1, hv1, h⟩ := obind h
    refine pE_gfI rfl rfl hv1 ?_
    refine pE_br (p0 ≤ v1) rfl rfl (fun c3 => ?_) (fun c3 => ?_)
    · rw [if_pos c3] at h
      refine pE_jump 2 (pc' := 16) (ls' := [some (.ref a), some (.int p0)]) (st' := [.int p0, .ref a]) (fun _ => rfl) ?_
      obtain ⟨S2, hS2, h⟩ := obind h
      refine pE_pf rfl rfl rfl hS2 ?_
      refine pE_jump 1 (pc' := 20) (ls' := [some (.ref a), some (.int p0)]) (st' := [.int 1]) (fun _ => rfl) ?_
      cases h
      exact pE_ret rfl rfl rfl
    · rw [if_neg c3] at h
      refine pE_weak [none, none] trivial ?_
      exact f_Tape_cutTo_12 sp d N S _ h
def F_BP_end (N : Nat) (S : pm_S) (a : Nat) (p0 : Int32) : Option (Int32 × pm_S) :=
    if rcv S a 10 = true then
    ((oR S a 10 0).bind fun oq1 => match oq1 with
    | none => none
    | some q1 =>
    (F_Tape_cutTo N S q1 p0).bind fun (v3, S2) =>
    if v3 = 0 ∨ v3 = 1 then some (v3, S2) else none)
    else none
theorem g_BP_end {N : Nat} {S : pm_S} {a : Nat} {p0 : Int32} {r : (Int32 × pm_S)} (h : F_BP_end N S a p0 = some r) : rcv S a 10 = true := by
  unfold F_BP_end at h
  by_cases c : rcv S a 10 = true
  · exact c
  · rw [if_neg c] at h; cases h
set_option maxHeartbeats 4000000 in
set_option maxRecDepth 20000 in
theorem f_BP_end (sp : pm_I → List Value → pm_S → pm_O → Prop) (d N : Nat) (S : pm_S) (a : Nat) (p0 : Int32) (r : (Int32 × pm_S)) (h : F_BP_end N S a p0 = some r) : pm_rel pG sp (d + 2) mi_BP_end [.ref a, .int p0] S (some (.int r.1), r.2) := by
  have hg := g_BP_end h
  unfold F_BP_end at h
  rw [if_pos hg] at h
  refine pE_rel (d := d + 1) ?_
  show pmE pG _ mi_BP_end 0 [some (.ref a), some (.int p0)] [] S _
  refine pE_jump 1 (pc' := 1) (ls' := [some (.ref a), some (.int p0)]) (st' := [.ref a]) (fun _ => rfl) ?_
  obtain ⟨oq1, hq1, h⟩ := obind h
  cases oq1 with
  | none => cases h
  | some q1 =>
    try dsimp only at h
    refine pE_gfS rfl rfl hq1 ?_
    refine pE_jump 1 (pc' := 5) (ls' := [some (.ref a), some (.int p0)]) (st' := [.int p0, .ref q1]) (fun _ => rfl) ?_
    obtain ⟨⟨v3, S2⟩, hv3, h⟩ := obind h
    try dsimp only at h
    refine pE_iv (Bs := [.int p0]) (st := []) 1 rfl (Or.inl ⟨rfl, rfl⟩) rfl rfl (Nat.le_of_ble_eq_true rfl) (Nat.le_of_ble_eq_true rfl) (g_Tape_cutTo hv3) (f_Tape_cutTo sp d N S q1 p0 _ hv3) ?_
    by_cases c4 : v3 = 0 ∨ v3 = 1
    · rw [if_pos c4] at h
      cases h
      exact pE_ret rfl (if_pos c4) rfl
    · rw [if_neg c4] at h
      cases h
def F_Ledger_dropTo_17 (N : Nat)   (S : pm_S) : Option pm_S :=
    some S
set_option maxHeartbeats 4000000 in
set_option maxRecDepth 20000 in
theorem f_Ledger_dropTo_17 (sp : pm_I → List Value → pm_S → pm_O → Prop) (d N : Nat)   (S : pm_S)  (r : pm_S) (h : F_Ledger_dropTo_17 N   S = some r) : pmE pG (pm_rel pG sp (d + 0)) mi_Ledger_dropTo 17 [none, none] [] S (none, r) := by
  unfold F_Ledger_dropTo_17 at h
  cases h
  exact pE_ret rfl rfl rfl
def F_Ledger_dropTo (N : Nat) (S : pm_S) (a : Nat) (p0 : Int32) : Option pm_S :=
    if rcv S a 2 = true then
    (if p0 < 0 then
    F_Ledger_dropTo_17 N S
    else
    ((oI S a 2 2).bind fun v1 =>
    if v1 ≤ p0 then
    F_Ledger_dropTo_17 N S
    else
    ((wF S a 2 2 .int (.int p0)).bind fun S2 =>
    F_Ledger_dropTo_17 N S2)))
    else none
theorem g_Ledger_dropTo {N : Nat} {S : pm_S} {a : Nat} {p0 : Int32} {r : pm_S} (h : F_Ledger_dropTo N S a p0 = some r) : rcv S a 2 = true := by
  unfold F_Ledger_dropTo at h
  by_cases c : rcv S a 2 = true
  · exact c
  · rw [if_neg c] at h; cases h
set_option maxHeartbeats 4000000 in
set_option maxRecDepth 20000 in
theorem f_Ledger_dropTo (sp : pm_I → List Value → pm_S → pm_O → Prop) (d N : Nat) (S : pm_S) (a : Nat) (p0 : Int32) (r : pm_S) (h : F_Ledger_dropTo N S a p0 = some r) : pm_rel pG sp (d + 1) mi_Ledger_dropTo [.ref a, .int p0] S (none, r) := by
  have hg := g_Ledger_dropTo h
  unfold F_Ledger_dropTo at h
  rw [if_pos hg] at h
  refine pE_rel (d := d + 0) ?_
  show pmE pG _ mi_Ledger_dropTo 0 [some (.ref a), some (.int p0)] [] S _
  refine pE_jump 1 (pc' := 1) (ls' := [some (.ref a), some (.int p0)]) (st' := [.int p0]) (fun _ => rfl) ?_
  refine pE_br (p0 < 0) rfl rfl (fun c4 => ?_) (fun c4 => ?_)
  · rw [if_pos c4] at h
    refine pE_weak [none, none] trivial ?_
    exact f_Ledger_dropTo_17 sp d N S _ h
  · rw [if_neg c4] at h
    refine pE_jump 2 (pc' := 6) (ls' := [some (.ref a), some (.int p0)]) (st' := [.ref a, .int p0]) (fun _ => rfl) ?_
    obtain ⟨v1, hv1, h⟩ := obind h
    refine pE_gfI rfl rfl hv1 ?_
    refine pE_br (v1 ≤ p0) rfl rfl (fun c3 => ?_) (fun c3 => ?_)
    · rw [if_pos c3] at h
      refine pE_weak [none, none] trivial ?_
      exact f_Ledger_dropTo_17 sp d N S _ h
    · rw [if_neg c3] at h
      refine pE_jump 2 (pc' := 14) (ls' := [some (.ref a), some (.int p0)]) (st' := [.int p0, .ref a]) (fun _ => rfl) ?_
      obtain ⟨S2, hS2, h⟩ := obind h
      refine pE_pf rfl rfl rfl hS2 ?_
      refine pE_weak [none, none] trivial ?_
      exact f_Ledger_dropTo_17 sp d N S2 _ h
def F_Layout_clear (N : Nat) (S : pm_S) (a : Nat) : Option pm_S :=
    if rcv S a 1 = true then
    ((oR S a 1 0).bind fun oq1 => match oq1 with
    | none => none
    | some q1 =>
    (F_Arr_fill N S q1 (-1)).bind fun S2 =>
    (oR S2 a 1 1).bind fun oq3 => match oq3 with
    | none => none
    | some q3 =>
    (F_Arr_fill N S2 q3 (-1)).bind fun S4 =>
    (oR S4 a 1 2).bind fun oq5 => match oq5 with
    | none => none
    | some q5 =>
    (F_Arr_fill N S4 q5 (-1)).bind fun S6 =>
    (oR S6 a 1 3).bind fun oq7 => match oq7 with
    | none => none
    | some q7 =>
    (F_Arr_fill N S6 q7 (-1)).bind fun S8 =>
    some S8)
    else none
theorem g_Layout_clear {N : Nat} {S : pm_S} {a : Nat} {r : pm_S} (h : F_Layout_clear N S a = some r) : rcv S a 1 = true := by
  unfold F_Layout_clear at h
  by_cases c : rcv S a 1 = true
  · exact c
  · rw [if_neg c] at h; cases h
set_option maxHeartbeats 4000000 in
set_option maxRecDepth 20000 in
theorem f_Layout_clear (sp : pm_I → List Value → pm_S → pm_O → Prop) (d N : Nat) (S : pm_S) (a : Nat) (r : pm_S) (h : F_Layout_clear N S a = some r) : pm_rel pG sp (d + 2) mi_Layout_clear [.ref a] S (none, r) := by
  have hg := g_Layout_clear h
  unfold F_Layout_clear at h
  rw [if_pos hg] at h
  refine pE_rel (d := d + 1) ?_
  show pmE pG _ mi_Layout_clear 0 [some (.ref a)] [] S _
  refine pE_jump 1 (pc' := 1) (ls' := [some (.ref a)]) (st' := [.ref a]) (fun _ => rfl) ?_
  obtain ⟨oq1, hq1, h⟩ := obind h
  cases oq1 with
  | none => cases h
  | some q1 =>
    try dsimp only at h
    refine pE_gfS rfl rfl hq1 ?_
    refine pE_jump 1 (pc' := 5) (ls' := [some (.ref a)]) (st' := [.int (-1), .ref q1]) (fun _ => rfl) ?_
    obtain ⟨S2, hS2, h⟩ := obind h
    refine pE_is (Bs := [.ref q1, .int (-1)]) (st := []) rfl rfl rfl (Nat.le_of_ble_eq_true rfl) (Nat.le_of_ble_eq_true rfl) (f_Arr_fill sp d N S q1 (-1) _ hS2) ?_
    refine pE_jump 1 (pc' := 9) (ls' := [some (.ref a)]) (st' := [.ref a]) (fun _ => rfl) ?_
    obtain ⟨oq3, hq3, h⟩ := obind h
    cases oq3 with
    | none => cases h
    | some q3 =>
      try dsimp only at h
      refine pE_gfS rfl rfl hq3 ?_
      refine pE_jump 1 (pc' := 13) (ls' := [some (.ref a)]) (st' := [.int (-1), .ref q3]) (fun _ => rfl) ?_
      obtain ⟨S4, hS4, h⟩ := obind h
      refine pE_is (Bs := [.ref q3, .int (-1)]) (st := []) rfl rfl rfl (Nat.le_of_ble_eq_true rfl) (Nat.le_of_ble_eq_true rfl) (f_Arr_fill sp d N S2 q3 (-1) _ hS4) ?_
      refine pE_jump 1 (pc' := 17) (ls' := [some (.ref a)]) (st' := [.ref a]) (fun _ => rfl) ?_
      obtain ⟨oq5, hq5, h⟩ := obind h
      cases oq5 with
      | none => cases h
      | some q5 =>
        try dsimp only at h
        refine pE_gfS rfl rfl hq5 ?_
        refine pE_jump 1 (pc' := 21) (ls' := [some (.ref a)]) (st' := [.int (-1), .ref q5]) (fun _ => rfl) ?_
        obtain ⟨S6, hS6, h⟩ := obind h
        refine pE_is (Bs := [.ref q5, .int (-1)]) (st := []) rfl rfl rfl (Nat.le_of_ble_eq_true rfl) (Nat.le_of_ble_eq_true rfl) (f_Arr_fill sp d N S4 q5 (-1) _ hS6) ?_
        refine pE_jump 1 (pc' := 25) (ls' := [some (.ref a)]) (st' := [.ref a]) (fun _ => rfl) ?_
        obtain ⟨oq7, hq7, h⟩ := obind h
        cases oq7 with
        | none => cases h
        | some q7 =>
          try dsimp only at h
          refine pE_gfS rfl rfl hq7 ?_
          refine pE_jump 1 (pc' := 29) (ls' := [some (.ref a)]) (st' := [.int (-1), .ref q7]) (fun _ => rfl) ?_
          obtain ⟨S8, hS8, h⟩ := obind h
          refine pE_is (Bs := [.ref q7, .int (-1)]) (st := []) rfl rfl rfl (Nat.le_of_ble_eq_true rfl) (Nat.le_of_ble_eq_true rfl) (f_Arr_fill sp d N S6 q7 (-1) _ hS8) ?_
          cases h
          exact pE_ret rfl rfl rfl
def F_Plan_clearText (N : Nat) (S : pm_S) (a : Nat) : Option pm_S :=
    if rcv S a 4 = true then
    ((wF S a 4 0 .int (.int 0)).bind fun S1 =>
    (oR S1 a 4 1).bind fun oq2 => match oq2 with
    | none => none
    | some q2 =>
    (F_Ledger_dropTo N S1 q2 0).bind fun S3 =>
    (oR S3 a 4 2).bind fun oq4 => match oq4 with
    | none => none
    | some q4 =>
    (F_Arr_fill N S3 q4 (-1)).bind fun S5 =>
    (oR S5 a 4 4).bind fun oq6 => match oq6 with
    | none => none
    | some q6 =>
    (F_Layout_clear N S5 q6).bind fun S7 =>
    some S7)
    else none
theorem g_Plan_clearText {N : Nat} {S : pm_S} {a : Nat} {r : pm_S} (h : F_Plan_clearText N S a = some r) : rcv S a 4 = true := by
  unfold F_Plan_clearText at h
  by_cases c : rcv S a 4 = true
  · exact c
  · rw [if_neg c] at h; cases h
set_option maxHeartbeats 4000000 in
set_option maxRecDepth 20000 in
theorem f_Plan_clearText (sp : pm_I → List Value → pm_S → pm_O → Prop) (d N : Nat) (S : pm_S) (a : Nat) (r : pm_S) (h : F_Plan_clearText N S a = some r) : pm_rel pG sp (d + 3) mi_Plan_clearText [.ref a] S (none, r) := by
  have hg := g_Plan_clearText h
  unfold F_Plan_clearText at h
  rw [if_pos hg] at h
  refine pE_rel (d := d + 2) ?_
  show pmE pG _ mi_Plan_clearText 0 [some (.ref a)] [] S _
  refine pE_jump 2 (pc' := 2) (ls' := [some (.ref a)]) (st' := [.int 0, .ref a]) (fun _ => rfl) ?_
  obtain ⟨S1, hS1, h⟩ := obind h
  refine pE_pf rfl rfl rfl hS1 ?_
  refine pE_jump 1 (pc' := 6) (ls' := [some (.ref a)]) (st' := [.ref a]) (fun _ => rfl) ?_
  obtain ⟨oq2, hq2, h⟩ := obind h
  cases oq2 with
  | none => cases h
  | some q2 =>
    try dsimp only at h
    refine pE_gfS rfl rfl hq2 ?_
    refine pE_jump 1 (pc' := 10) (ls' := [some (.ref a)]) (st' := [.int 0, .ref q2]) (fun _ => rfl) ?_
    obtain ⟨S3, hS3, h⟩ := obind h
    refine pE_iv (Bs := [.int 0]) (st := []) 1 rfl (Or.inl ⟨rfl, rfl⟩) rfl rfl (Nat.le_of_ble_eq_true rfl) (Nat.le_of_ble_eq_true rfl) (g_Ledger_dropTo hS3) (f_Ledger_dropTo sp (d + 1) N S1 q2 0 _ hS3) ?_
    refine pE_jump 1 (pc' := 14) (ls' := [some (.ref a)]) (st' := [.ref a]) (fun _ => rfl) ?_
    obtain ⟨oq4, hq4, h⟩ := obind h
    cases oq4 with
    | none => cases h
    | some q4 =>
      try dsimp only at h
      refine pE_gfS rfl rfl hq4 ?_
      refine pE_jump 1 (pc' := 18) (ls' := [some (.ref a)]) (st' := [.int (-1), .ref q4]) (fun _ => rfl) ?_
      obtain ⟨S5, hS5, h⟩ := obind h
      refine pE_is (Bs := [.ref q4, .int (-1)]) (st := []) rfl rfl rfl (Nat.le_of_ble_eq_true rfl) (Nat.le_of_ble_eq_true rfl) (f_Arr_fill sp (d + 1) N S3 q4 (-1) _ hS5) ?_
      refine pE_jump 1 (pc' := 22) (ls' := [some (.ref a)]) (st' := [.ref a]) (fun _ => rfl) ?_
      obtain ⟨oq6, hq6, h⟩ := obind h
      cases oq6 with
      | none => cases h
      | some q6 =>
        try dsimp only at h
        refine pE_gfS rfl rfl hq6 ?_
        obtain ⟨S7, hS7, h⟩ := obind h
        refine pE_iv (Bs := []) (st := []) 1 rfl (Or.inl ⟨rfl, rfl⟩) rfl rfl (Nat.le_of_ble_eq_true rfl) (Nat.le_of_ble_eq_true rfl) (g_Layout_clear hS7) (f_Layout_clear sp d N S5 q6 _ hS7) ?_
        cases h
        exact pE_ret rfl rfl rfl
def F_BP_valueAt_17 (N : Nat)  (t0 : Int32) (S : pm_S) : Option (Int32 × pm_S) :=
    some (t0, S)
set_option maxHeartbeats 4000000 in
set_option maxRecDepth 20000 in
theorem f_BP_valueAt_17 (sp : pm_I → List Value → pm_S → pm_O → Prop) (d N : Nat)  (t0 : Int32) (S : pm_S)  (r : (Int32 × pm_S)) (h : F_BP_valueAt_17 N  t0 S = some r) : pmE pG (pm_rel pG sp (d + 0)) mi_BP_valueAt 17 [none, none] [.int t0] S (some (.int r.1), r.2) := by
  unfold F_BP_valueAt_17 at h
  cases h
  exact pE_ret rfl rfl rfl
def F_BP_valueAt_16 (N : Nat)   (S : pm_S) : Option (Int32 × pm_S) :=
    F_BP_valueAt_17 N (-1) S
set_option maxHeartbeats 4000000 in
set_option maxRecDepth 20000 in
theorem f_BP_valueAt_16 (sp : pm_I → List Value → pm_S → pm_O → Prop) (d N : Nat)   (S : pm_S)  (r : (Int32 × pm_S)) (h : F_BP_valueAt_16 N   S = some r) : pmE pG (pm_rel pG sp (d + 0)) mi_BP_valueAt 16 [none, none] [] S (some (.int r.1), r.2) := by
  unfold F_BP_valueAt_16 at h
  refine pE_jump 1 (pc' := 17) (ls' := [none, none]) (st' := [.int (-1)]) (fun _ => rfl) ?_
  exact f_BP_valueAt_17 sp d N (-1) S _ h
def F_BP_valueAt (N : Nat) (S : pm_S) (p0 : Nat) (p1 : Int32) : Option (Int32 × pm_S) :=
    if p1 < 0 then
    F_BP_valueAt_16 N S
    else
    ((aNS S p0).bind fun v1 =>
    if v1 ≤ p1 then
    F_BP_valueAt_16 N S
    else
    ((aI [0, 6] S p0 p1).bind fun v2 =>
    F_BP_valueAt_17 N v2 S))
set_option maxHeartbeats 4000000 in
set_option maxRecDepth 20000 in
theorem f_BP_valueAt (sp : pm_I → List Value → pm_S → pm_O → Prop) (d N : Nat) (S : pm_S) (p0 : Nat) (p1 : Int32) (r : (Int32 × pm_S)) (h : F_BP_valueAt N S p0 p1 = some r) : pm_rel pG sp (d + 1) mi_BP_valueAt [.ref p0, .int p1] S (some (.int r.1), r.2) := by
  unfold F_BP_valueAt at h
  refine pE_rel (d := d + 0) ?_
  show pmE pG _ mi_BP_valueAt 0 [some (.ref p0), some (.int p1)] [] S _
  refine pE_jump 1 (pc' := 1) (ls' := [some (.ref p0), some (.int p1)]) (st' := [.int p1]) (fun _ => rfl) ?_
  refine pE_br (p1 < 0) rfl rfl (fun c4 => ?_) (fun c4 => ?_)
  · rw [if_pos c4] at h
    refine pE_weak [none, none] trivial ?_
    exact f_BP_valueAt_16 sp d N S _ h
  · rw [if_neg c4] at h
    refine pE_jump 2 (pc' := 6) (ls' := [some (.ref p0), some (.int p1)]) (st' := [.ref p0, .int p1]) (fun _ => rfl) ?_
    obtain ⟨v1, hv1, h⟩ := obind h
    refine pE_aN rfl hv1 ?_
    refine pE_br (v1 ≤ p1) rfl rfl (fun c3 => ?_) (fun c3 => ?_)
    · rw [if_pos c3] at h
      refine pE_weak [none, none] trivial ?_
      exact f_BP_valueAt_16 sp d N S _ h
    · rw [if_neg c3] at h
      refine pE_jump 2 (pc' := 12) (ls' := [some (.ref p0), some (.int p1)]) (st' := [.int p1, .ref p0]) (fun _ => rfl) ?_
      obtain ⟨v2, hv2, h⟩ := obind h
      refine pE_aI rfl rfl hv2 ?_
      refine pE_jump 1 (pc' := 17) (ls' := [some (.ref p0), some (.int p1)]) (st' := [.int v2]) (fun _ => rfl) ?_
      refine pE_weak [none, none] trivial ?_
      exact f_BP_valueAt_17 sp d N v2 S _ h
def F_Tape_byteAt_20 (N : Nat)  (t0 : Int32) (S : pm_S) : Option (Int32 × pm_S) :=
    some (t0, S)
set_option maxHeartbeats 4000000 in
set_option maxRecDepth 20000 in
theorem f_Tape_byteAt_20 (sp : pm_I → List Value → pm_S → pm_O → Prop) (d N : Nat)  (t0 : Int32) (S : pm_S)  (r : (Int32 × pm_S)) (h : F_Tape_byteAt_20 N  t0 S = some r) : pmE pG (pm_rel pG sp (d + 1)) mi_Tape_byteAt 20 [none, none] [.int t0] S (some (.int r.1), r.2) := by
  unfold F_Tape_byteAt_20 at h
  cases h
  exact pE_ret rfl rfl rfl
def F_Tape_byteAt (N : Nat) (S : pm_S) (a : Nat) (p0 : Int32) : Option (Int32 × pm_S) :=
    if rcv S a 6 = true then
    ((oI S a 6 1).bind fun v1 =>
    if v1 ≤ p0 then
    F_Tape_byteAt_20 N (-1) S
    else
    ((oR S a 6 0).bind fun oq2 => match oq2 with
    | none => none
    | some q2 =>
    (F_BP_valueAt N S q2 p0).bind fun (v4, S3) =>
    F_Tape_byteAt_20 N v4 S3))
    else none
theorem g_Tape_byteAt {N : Nat} {S : pm_S} {a : Nat} {p0 : Int32} {r : (Int32 × pm_S)} (h : F_Tape_byteAt N S a p0 = some r) : rcv S a 6 = true := by
  unfold F_Tape_byteAt at h
  by_cases c : rcv S a 6 = true
  · exact c
  · rw [if_neg c] at h; cases h
set_option maxHeartbeats 4000000 in
set_option maxRecDepth 20000 in
theorem f_Tape_byteAt (sp : pm_I → List Value → pm_S → pm_O → Prop) (d N : Nat) (S : pm_S) (a : Nat) (p0 : Int32) (r : (Int32 × pm_S)) (h : F_Tape_byteAt N S a p0 = some r) : pm_rel pG sp (d + 2) mi_Tape_byteAt [.ref a, .int p0] S (some (.int r.1), r.2) := by
  have hg := g_Tape_byteAt h
  unfold F_Tape_byteAt at h
  rw [if_pos hg] at h
  refine pE_rel (d := d + 1) ?_
  show pmE pG _ mi_Tape_byteAt 0 [some (.ref a), some (.int p0)] [] S _
  refine pE_jump 2 (pc' := 2) (ls' := [some (.ref a), some (.int p0)]) (st' := [.ref a, .int p0]) (fun _ => rfl) ?_
  obtain ⟨v1, hv1, h⟩ := obind h
  refine pE_gfI rfl rfl hv1 ?_
  refine pE_br (v1 ≤ p0) rfl rfl (fun c5 => ?_) (fun c5 => ?_)
  · rw [if_pos c5] at h
    refine pE_jump 1 (pc' := 20) (ls' := [some (.ref a), some (.int p0)]) (st' := [.int (-1)]) (fun _ => rfl) ?_
    refine pE_weak [none, none] trivial ?_
    exact f_Tape_byteAt_20 sp d N (-1) S _ h
  · rw [if_neg c5] at h
    refine pE_jump 1 (pc' := 9) (ls' := [some (.ref a), some (.int p0)]) (st' := [.ref a]) (fun _ => rfl) ?_
    obtain ⟨oq2, hq2, h⟩ := obind h
    cases oq2 with
    | none => cases h
    | some q2 =>
      try dsimp only at h
      refine pE_gfS rfl rfl hq2 ?_
      refine pE_jump 1 (pc' := 13) (ls' := [some (.ref a), some (.int p0)]) (st' := [.int p0, .ref q2]) (fun _ => rfl) ?_
      obtain ⟨⟨v4, S3⟩, hv4, h⟩ := obind h
      try dsimp only at h
      refine pE_is (Bs := [.ref q2, .int p0]) (st := []) rfl rfl rfl (Nat.le_of_ble_eq_true rfl) (Nat.le_of_ble_eq_true rfl) (f_BP_valueAt sp d N S q2 p0 _ hv4) ?_
      refine pE_jump 1 (pc' := 20) (ls' := [some (.ref a), some (.int p0)]) (st' := [.int v4]) (fun _ => rfl) ?_
      refine pE_weak [none, none] trivial ?_
      exact f_Tape_byteAt_20 sp d N v4 S3 _ h
def F_Reader_skipBlanks_41 (N : Nat)   (S : pm_S) : Option pm_S :=
    some S
set_option maxHeartbeats 4000000 in
set_option maxRecDepth 20000 in
theorem f_Reader_skipBlanks_41 (sp : pm_I → List Value → pm_S → pm_O → Prop) (d N : Nat)   (S : pm_S)  (r : pm_S) (h : F_Reader_skipBlanks_41 N   S = some r) : pmE pG (pm_rel pG sp (d + 2)) mi_Reader_skipBlanks 41 [none, none] [] S (none, r) := by
  unfold F_Reader_skipBlanks_41 at h
  cases h
  exact pE_ret rfl rfl rfl
def B_Reader_skipBlanks_2 (N : Nat)  (rec2 : Int32 → pm_S → Option pm_S) (x0 : Nat) (x1 : Int32) (S : pm_S) : Option pm_S :=
    if 300 ≤ x1 then
    F_Reader_skipBlanks_41 N S
    else
    ((oR S x0 7 0).bind fun oq1 => match oq1 with
    | none => none
    | some q1 =>
    (oI S x0 7 1).bind fun v3 =>
    (F_Tape_byteAt N S q1 v3).bind fun (v5, S4) =>
    if v5 = 32 then
    ((oI S4 x0 7 1).bind fun v6 =>
    (wF S4 x0 7 1 .int (.int (v6 + 1))).bind fun S7 =>
    rec2 (x1 + 1) S7)
    else
    F_Reader_skipBlanks_41 N S4)
def F_Reader_skipBlanks_2 (N : Nat)  (x0 : Nat) : Nat → Int32 → pm_S → Option pm_S
  | 0 => fun _ _ => none
  | n + 1 => fun x1 S => B_Reader_skipBlanks_2 N  (F_Reader_skipBlanks_2 N  x0 n) x0 x1 S
set_option maxHeartbeats 4000000 in
set_option maxRecDepth 20000 in
theorem f_Reader_skipBlanks_2 (sp : pm_I → List Value → pm_S → pm_O → Prop) (d N : Nat)  (x0 : Nat)  : ∀ (n : Nat) (x1 : Int32) (S : pm_S) (r : pm_S), F_Reader_skipBlanks_2 N  x0 n x1 S = some r → pmE pG (pm_rel pG sp (d + 2)) mi_Reader_skipBlanks 2 [some (.ref x0), some (.int x1)] [] S (none, r) := by
  intro n
  induction n with
  | zero =>
    intro x1 S r h
    cases h
  | succ n ih =>
    intro x1 S r h
    replace h : B_Reader_skipBlanks_2 N  (F_Reader_skipBlanks_2 N  x0 n) x0 x1 S = some r := h
    have hrec2 := ih
    generalize F_Reader_skipBlanks_2 N  x0 n = rec2 at h hrec2
    unfold B_Reader_skipBlanks_2 at h
    refine pE_jump 2 (pc' := 6) (ls' := [some (.ref x0), some (.int x1)]) (st' := [.int 300, .int x1]) (fun _ => rfl) ?_
    refine pE_br (300 ≤ x1) rfl rfl (fun c9 => ?_) (fun c9 => ?_)
    · rw [if_pos c9] at h
      refine pE_weak [none, none] trivial ?_
      exact f_Reader_skipBlanks_41 sp d N S _ h
    · rw [if_neg c9] at h
      refine pE_jump 1 (pc' := 10) (ls' := [some (.ref x0), some (.int x1)]) (st' := [.ref x0]) (fun _ => rfl) ?_
      obtain ⟨oq1, hq1, h⟩ := obind h
      cases oq1 with
      | none => cases h
      | some q1 =>
        try dsimp only at h
        refine pE_gfS rfl rfl hq1 ?_
        refine pE_jump 1 (pc' := 14) (ls' := [some (.ref x0), some (.int x1)]) (st' := [.ref x0, .ref q1]) (fun _ => rfl) ?_
        obtain ⟨v3, hv3, h⟩ := obind h
        refine pE_gfI rfl rfl hv3 ?_
        obtain ⟨⟨v5, S4⟩, hv5, h⟩ := obind h
        try dsimp only at h
        refine pE_iv (Bs := [.int v3]) (st := []) 1 rfl (Or.inl ⟨rfl, rfl⟩) rfl rfl (Nat.le_of_ble_eq_true rfl) (Nat.le_of_ble_eq_true rfl) (g_Tape_byteAt hv5) (f_Tape_byteAt sp d N S q1 v3 _ hv5) ?_
        refine pE_jump 1 (pc' := 22) (ls' := [some (.ref x0), some (.int x1)]) (st' := [.int 32, .int v5]) (fun _ => rfl) ?_
        refine pE_br (¬ v5 = 32) rfl rfl (fun c8 => ?_) (fun c8 => ?_)
        · rw [if_neg c8] at h
          refine pE_weak [none, none] trivial ?_
          exact f_Reader_skipBlanks_41 sp d N S4 _ h
        · have c8 := Decidable.not_not.mp c8
          rw [if_pos c8] at h
          refine pE_jump 2 (pc' := 27) (ls' := [some (.ref x0), some (.int x1)]) (st' := [.ref x0, .ref x0]) (fun _ => rfl) ?_
          obtain ⟨v6, hv6, h⟩ := obind h
          refine pE_gfI rfl rfl hv6 ?_
          refine pE_jump 2 (pc' := 32) (ls' := [some (.ref x0), some (.int x1)]) (st' := [.int (v6 + 1), .ref x0]) (fun _ => rfl) ?_
          obtain ⟨S7, hS7, h⟩ := obind h
          refine pE_pf rfl rfl rfl hS7 ?_
          refine pE_jump 2 (pc' := 2) (ls' := [some (.ref x0), some (.int (x1 + 1))]) (st' := []) (fun _ => rfl) ?_
          exact hrec2 (x1 + 1) S7 _ h
def F_Reader_skipBlanks (N : Nat) (S : pm_S) (a : Nat) : Option pm_S :=
    if rcv S a 7 = true then
    (F_Reader_skipBlanks_2 N a N 0 S)
    else none
theorem g_Reader_skipBlanks {N : Nat} {S : pm_S} {a : Nat} {r : pm_S} (h : F_Reader_skipBlanks N S a = some r) : rcv S a 7 = true := by
  unfold F_Reader_skipBlanks at h
  by_cases c : rcv S a 7 = true
  · exact c
  · rw [if_neg c] at h; cases h
set_option maxHeartbeats 4000000 in
set_option maxRecDepth 20000 in
theorem f_Reader_skipBlanks (sp : pm_I → List Value → pm_S → pm_O → Prop) (d N : Nat) (S : pm_S) (a : Nat) (r : pm_S) (h : F_Reader_skipBlanks N S a = some r) : pm_rel pG sp (d + 3) mi_Reader_skipBlanks [.ref a] S (none, r) := by
  have hg := g_Reader_skipBlanks h
  unfold F_Reader_skipBlanks at h
  rw [if_pos hg] at h
  refine pE_rel (d := d + 2) ?_
  show pmE pG _ mi_Reader_skipBlanks 0 [some (.ref a), none] [] S _
  refine pE_jump 2 (pc' := 2) (ls' := [some (.ref a), some (.int 0)]) (st' := []) (fun _ => rfl) ?_
  exact f_Reader_skipBlanks_2 sp d N a N 0 S _ h
def F_Reader_fail_13 (N : Nat)   (S : pm_S) : Option pm_S :=
    some S
set_option maxHeartbeats 4000000 in
set_option maxRecDepth 20000 in
theorem f_Reader_fail_13 (sp : pm_I → List Value → pm_S → pm_O → Prop) (d N : Nat)   (S : pm_S)  (r : pm_S) (h : F_Reader_fail_13 N   S = some r) : pmE pG (pm_rel pG sp (d + 0)) mi_Reader_fail 13 [none, none] [] S (none, r) := by
  unfold F_Reader_fail_13 at h
  cases h
  exact pE_ret rfl rfl rfl
def F_Reader_fail (N : Nat) (S : pm_S) (a : Nat) (p0 : Int32) : Option pm_S :=
    if rcv S a 7 = true then
    ((oI S a 7 2).bind fun v1 =>
    if v1 = (-1) then
    ((wF S a 7 2 .int (.int p0)).bind fun S2 =>
    F_Reader_fail_13 N S2)
    else
    F_Reader_fail_13 N S)
    else none
theorem g_Reader_fail {N : Nat} {S : pm_S} {a : Nat} {p0 : Int32} {r : pm_S} (h : F_Reader_fail N S a p0 = some r) : rcv S a 7 = true := by
  unfold F_Reader_fail at h
  by_cases c : rcv S a 7 = true
  · exact c
  · rw [if_neg c] at h; cases h
set_option maxHeartbeats 4000000 in
set_option maxRecDepth 20000 in
theorem f_Reader_fail (sp : pm_I → List Value → pm_S → pm_O → Prop) (d N : Nat) (S : pm_S) (a : Nat) (p0 : Int32) (r : pm_S) (h : F_Reader_fail N S a p0 = some r) : pm_rel pG sp (d + 1) mi_Reader_fail [.ref a, .int p0] S (none, r) := by
  have hg := g_Reader_fail h
  unfold F_Reader_fail at h
  rw [if_pos hg] at h
  refine pE_rel (d := d + 0) ?_
  show pmE pG _ mi_Reader_fail 0 [some (.ref a), some (.int p0)] [] S _
  refine pE_jump 1 (pc' := 1) (ls' := [some (.ref a), some (.int p0)]) (st' := [.ref a]) (fun _ => rfl) ?_
  obtain ⟨v1, hv1, h⟩ := obind h
  refine pE_gfI rfl rfl hv1 ?_
  refine pE_jump 1 (pc' := 5) (ls' := [some (.ref a), some (.int p0)]) (st' := [.int (-1), .int v1]) (fun _ => rfl) ?_
  refine pE_br (¬ v1 = (-1)) rfl rfl (fun c3 => ?_) (fun c3 => ?_)
  · rw [if_neg c3] at h
    refine pE_weak [none, none] trivial ?_
    exact f_Reader_fail_13 sp d N S _ h
  · have c3 := Decidable.not_not.mp c3
    rw [if_pos c3] at h
    refine pE_jump 2 (pc' := 10) (ls' := [some (.ref a), some (.int p0)]) (st' := [.int p0, .ref a]) (fun _ => rfl) ?_
    obtain ⟨S2, hS2, h⟩ := obind h
    refine pE_pf rfl rfl rfl hS2 ?_
    refine pE_weak [none, none] trivial ?_
    exact f_Reader_fail_13 sp d N S2 _ h
def F_Reader_digitAt_29 (N : Nat)  (t0 : Int32) (S : pm_S) : Option (Int32 × pm_S) :=
    some (t0, S)
set_option maxHeartbeats 4000000 in
set_option maxRecDepth 20000 in
theorem f_Reader_digitAt_29 (sp : pm_I → List Value → pm_S → pm_O → Prop) (d N : Nat)  (t0 : Int32) (S : pm_S)  (r : (Int32 × pm_S)) (h : F_Reader_digitAt_29 N  t0 S = some r) : pmE pG (pm_rel pG sp (d + 2)) mi_Reader_digitAt 29 [none, none, none] [.int t0] S (some (.int r.1), r.2) := by
  unfold F_Reader_digitAt_29 at h
  cases h
  exact pE_ret rfl rfl rfl
def F_Reader_digitAt_28 (N : Nat)   (S : pm_S) : Option (Int32 × pm_S) :=
    F_Reader_digitAt_29 N (-1) S
set_option maxHeartbeats 4000000 in
set_option maxRecDepth 20000 in
theorem f_Reader_digitAt_28 (sp : pm_I → List Value → pm_S → pm_O → Prop) (d N : Nat)   (S : pm_S)  (r : (Int32 × pm_S)) (h : F_Reader_digitAt_28 N   S = some r) : pmE pG (pm_rel pG sp (d + 2)) mi_Reader_digitAt 28 [none, none, none] [] S (some (.int r.1), r.2) := by
  unfold F_Reader_digitAt_28 at h
  refine pE_jump 1 (pc' := 29) (ls' := [none, none, none]) (st' := [.int (-1)]) (fun _ => rfl) ?_
  exact f_Reader_digitAt_29 sp d N (-1) S _ h
def F_Reader_digitAt (N : Nat) (S : pm_S) (a : Nat) (p0 : Int32) : Option (Int32 × pm_S) :=
    if rcv S a 7 = true then
    ((oR S a 7 0).bind fun oq1 => match oq1 with
    | none => none
    | some q1 =>
    (F_Tape_byteAt N S q1 p0).bind fun (v3, S2) =>
    if v3 < 48 then
    F_Reader_digitAt_28 N S2
    else
    (if 57 < v3 then
    F_Reader_digitAt_28 N S2
    else
    F_Reader_digitAt_29 N (v3 - 48) S2))
    else none
theorem g_Reader_digitAt {N : Nat} {S : pm_S} {a : Nat} {p0 : Int32} {r : (Int32 × pm_S)} (h : F_Reader_digitAt N S a p0 = some r) : rcv S a 7 = true := by
  unfold F_Reader_digitAt at h
  by_cases c : rcv S a 7 = true
  · exact c
  · rw [if_neg c] at h; cases h
set_option maxHeartbeats 4000000 in
set_option maxRecDepth 20000 in
theorem f_Reader_digitAt (sp : pm_I → List Value → pm_S → pm_O → Prop) (d N : Nat) (S : pm_S) (a : Nat) (p0 : Int32) (r : (Int32 × pm_S)) (h : F_Reader_digitAt N S a p0 = some r) : pm_rel pG sp (d + 3) mi_Reader_digitAt [.ref a, .int p0] S (some (.int r.1), r.2) := by
  have hg := g_Reader_digitAt h
  unfold F_Reader_digitAt at h
  rw [if_pos hg] at h
  refine pE_rel (d := d + 2) ?_
  show pmE pG _ mi_Reader_digitAt 0 [some (.ref a), some (.int p0), none] [] S _
  refine pE_jump 1 (pc' := 1) (ls' := [some (.ref a), some (.int p0), none]) (st' := [.ref a]) (fun _ => rfl) ?_
  obtain ⟨oq1, hq1, h⟩ := obind h
  cases oq1 with
  | none => cases h
  | some q1 =>
    try dsimp only at h
    refine pE_gfS rfl rfl hq1 ?_
    refine pE_jump 1 (pc' := 5) (ls' := [some (.ref a), some (.int p0), none]) (st' := [.int p0, .ref q1]) (fun _ => rfl) ?_
    obtain ⟨⟨v3, S2⟩, hv3, h⟩ := obind h
    try dsimp only at h
    refine pE_iv (Bs := [.int p0]) (st := []) 1 rfl (Or.inl ⟨rfl, rfl⟩) rfl rfl (Nat.le_of_ble_eq_true rfl) (Nat.le_of_ble_eq_true rfl) (g_Tape_byteAt hv3) (f_Tape_byteAt sp d N S q1 p0 _ hv3) ?_
    refine pE_jump 3 (pc' := 12) (ls' := [some (.ref a), some (.int p0), some (.int v3)]) (st' := [.int 48, .int v3]) (fun _ => rfl) ?_
    refine pE_br (v3 < 48) rfl rfl (fun c5 => ?_) (fun c5 => ?_)
    · rw [if_pos c5] at h
      refine pE_weak [none, none, none] trivial ?_
      exact f_Reader_digitAt_28 sp d N S2 _ h
    · rw [if_neg c5] at h
      refine pE_jump 2 (pc' := 18) (ls' := [some (.ref a), some (.int p0), some (.int v3)]) (st' := [.int 57, .int v3]) (fun _ => rfl) ?_
      refine pE_br (57 < v3) rfl rfl (fun c4 => ?_) (fun c4 => ?_)
      · rw [if_pos c4] at h
        refine pE_weak [none, none, none] trivial ?_
        exact f_Reader_digitAt_28 sp d N S2 _ h
      · rw [if_neg c4] at h
        refine pE_jump 4 (pc' := 29) (ls' := [some (.ref a), some (.int p0), some (.int v3)]) (st' := [.int (v3 - 48)]) (fun _ => rfl) ?_
        refine pE_weak [none, none, none] trivial ?_
        exact f_Reader_digitAt_29 sp d N (v3 - 48) S2 _ h
def F_Reader_number_129 (N : Nat)  (x3 : Int32) (S : pm_S) : Option (Int32 × pm_S) :=
    some (x3, S)
set_option maxHeartbeats 4000000 in
set_option maxRecDepth 20000 in
theorem f_Reader_number_129 (sp : pm_I → List Value → pm_S → pm_O → Prop) (d N : Nat)  (x3 : Int32) (S : pm_S)  (r : (Int32 × pm_S)) (h : F_Reader_number_129 N  x3 S = some r) : pmE pG (pm_rel pG sp (d + 3)) mi_Reader_number 129 [none, none, none, some (.int x3), none] [] S (some (.int r.1), r.2) := by
  unfold F_Reader_number_129 at h
  refine pE_jump 1 (pc' := 130) (ls' := [none, none, none, some (.int x3), none]) (st' := [.int x3]) (fun _ => rfl) ?_
  cases h
  exact pE_ret rfl rfl rfl
def F_Reader_number_119 (N : Nat)  (x0 : Nat) (x3 : Int32) (S : pm_S) : Option (Int32 × pm_S) :=
    (oI S x0 7 1).bind fun v18 =>
    (F_Reader_fail N S x0 (v18 - 1)).bind fun S19 =>
    F_Reader_number_129 N x3 S19
set_option maxHeartbeats 4000000 in
set_option maxRecDepth 20000 in
theorem f_Reader_number_119 (sp : pm_I → List Value → pm_S → pm_O → Prop) (d N : Nat)  (x0 : Nat) (x3 : Int32) (S : pm_S)  (r : (Int32 × pm_S)) (h : F_Reader_number_119 N  x0 x3 S = some r) : pmE pG (pm_rel pG sp (d + 3)) mi_Reader_number 119 [some (.ref x0), none, none, some (.int x3), none] [] S (some (.int r.1), r.2) := by
  unfold F_Reader_number_119 at h
  refine pE_jump 2 (pc' := 121) (ls' := [some (.ref x0), none, none, some (.int x3), none]) (st' := [.ref x0, .ref x0]) (fun _ => rfl) ?_
  obtain ⟨v18, hv18, h⟩ := obind h
  refine pE_gfI rfl rfl hv18 ?_
  refine pE_jump 2 (pc' := 126) (ls' := [some (.ref x0), none, none, some (.int x3), none]) (st' := [.int (v18 - 1), .ref x0]) (fun _ => rfl) ?_
  obtain ⟨S19, hS19, h⟩ := obind h
  refine pE_iv (Bs := [.int (v18 - 1)]) (st := []) 1 rfl (Or.inl ⟨rfl, rfl⟩) rfl rfl (Nat.le_of_ble_eq_true rfl) (Nat.le_of_ble_eq_true rfl) (g_Reader_fail hS19) (f_Reader_fail sp (d + 2) N S x0 (v18 - 1) _ hS19) ?_
  refine pE_weak [none, none, none, some (.int x3), none] ⟨rfl, trivial⟩ ?_
  exact f_Reader_number_129 sp d N x3 S19 _ h
def F_Reader_number_109 (N : Nat)  (x0 : Nat) (x1 : Int32) (x2 : Int32) (x3 : Int32) (S : pm_S) : Option (Int32 × pm_S) :=
    if x3 < x1 then
    F_Reader_number_119 N x0 x3 S
    else
    (if x3 ≤ x2 then
    F_Reader_number_129 N x3 S
    else
    F_Reader_number_119 N x0 x3 S)
set_option maxHeartbeats 4000000 in
set_option maxRecDepth 20000 in
theorem f_Reader_number_109 (sp : pm_I → List Value → pm_S → pm_O → Prop) (d N : Nat)  (x0 : Nat) (x1 : Int32) (x2 : Int32) (x3 : Int32) (S : pm_S)  (r : (Int32 × pm_S)) (h : F_Reader_number_109 N  x0 x1 x2 x3 S = some r) : pmE pG (pm_rel pG sp (d + 3)) mi_Reader_number 109 [some (.ref x0), some (.int x1), some (.int x2), some (.int x3), none] [] S (some (.int r.1), r.2) := by
  unfold F_Reader_number_109 at h
  refine pE_jump 2 (pc' := 111) (ls' := [some (.ref x0), some (.int x1), some (.int x2), some (.int x3), none]) (st' := [.int x1, .int x3]) (fun _ => rfl) ?_
  refine pE_br (x3 < x1) rfl rfl (fun c21 => ?_) (fun c21 => ?_)
  · rw [if_pos c21] at h
    refine pE_weak [some (.ref x0), none, none, some (.int x3), none] ⟨rfl, ⟨rfl, trivial⟩⟩ ?_
    exact f_Reader_number_119 sp d N x0 x3 S _ h
  · rw [if_neg c21] at h
    refine pE_jump 2 (pc' := 116) (ls' := [some (.ref x0), some (.int x1), some (.int x2), some (.int x3), none]) (st' := [.int x2, .int x3]) (fun _ => rfl) ?_
    refine pE_br (x3 ≤ x2) rfl rfl (fun c20 => ?_) (fun c20 => ?_)
    · rw [if_pos c20] at h
      refine pE_weak [none, none, none, some (.int x3), none] ⟨rfl, trivial⟩ ?_
      exact f_Reader_number_129 sp d N x3 S _ h
    · rw [if_neg c20] at h
      refine pE_weak [some (.ref x0), none, none, some (.int x3), none] ⟨rfl, ⟨rfl, trivial⟩⟩ ?_
      exact f_Reader_number_119 sp d N x0 x3 S _ h
def F_Reader_number_41 (N : Nat)  (x0 : Nat) (x1 : Int32) (x2 : Int32) (S : pm_S) : Option (Int32 × pm_S) :=
    (oI S x0 7 1).bind fun v8 =>
    (F_Reader_digitAt N S x0 v8).bind fun (v10, S9) =>
    if v10 = (-1) then
    ((oI S9 x0 7 1).bind fun v11 =>
    (F_Reader_fail N S9 x0 v11).bind fun S12 =>
    some ((-1), S12))
    else
    ((oI S9 x0 7 1).bind fun v13 =>
    (wF S9 x0 7 1 .int (.int (v13 + 1))).bind fun S14 =>
    (oI S14 x0 7 1).bind fun v15 =>
    (F_Reader_digitAt N S14 x0 v15).bind fun (v17, S16) =>
    if v17 = (-1) then
    F_Reader_number_109 N x0 x1 x2 v10 S16
    else
    ((oI S16 x0 7 1).bind fun v22 =>
    (wF S16 x0 7 1 .int (.int (v22 + 1))).bind fun S23 =>
    F_Reader_number_109 N x0 x1 x2 ((10 * v10) + v17) S23))
set_option maxHeartbeats 4000000 in
set_option maxRecDepth 20000 in
theorem f_Reader_number_41 (sp : pm_I → List Value → pm_S → pm_O → Prop) (d N : Nat)  (x0 : Nat) (x1 : Int32) (x2 : Int32) (S : pm_S)  (r : (Int32 × pm_S)) (h : F_Reader_number_41 N  x0 x1 x2 S = some r) : pmE pG (pm_rel pG sp (d + 3)) mi_Reader_number 41 [some (.ref x0), some (.int x1), some (.int x2), none, none] [] S (some (.int r.1), r.2) := by
  unfold F_Reader_number_41 at h
  refine pE_jump 2 (pc' := 43) (ls' := [some (.ref x0), some (.int x1), some (.int x2), none, none]) (st' := [.ref x0, .ref x0]) (fun _ => rfl) ?_
  obtain ⟨v8, hv8, h⟩ := obind h
  refine pE_gfI rfl rfl hv8 ?_
  obtain ⟨⟨v10, S9⟩, hv10, h⟩ := obind h
  try dsimp only at h
  refine pE_iv (Bs := [.int v8]) (st := []) 1 rfl (Or.inl ⟨rfl, rfl⟩) rfl rfl (Nat.le_of_ble_eq_true rfl) (Nat.le_of_ble_eq_true rfl) (g_Reader_digitAt hv10) (f_Reader_digitAt sp d N S x0 v8 _ hv10) ?_
  refine pE_jump 3 (pc' := 52) (ls' := [some (.ref x0), some (.int x1), some (.int x2), some (.int v10), none]) (st' := [.int (-1), .int v10]) (fun _ => rfl) ?_
  refine pE_br (¬ v10 = (-1)) rfl rfl (fun c25 => ?_) (fun c25 => ?_)
  · rw [if_neg c25] at h
    refine pE_jump 2 (pc' := 67) (ls' := [some (.ref x0), some (.int x1), some (.int x2), some (.int v10), none]) (st' := [.ref x0, .ref x0]) (fun _ => rfl) ?_
    obtain ⟨v13, hv13, h⟩ := obind h
    refine pE_gfI rfl rfl hv13 ?_
    refine pE_jump 2 (pc' := 72) (ls' := [some (.ref x0), some (.int x1), some (.int x2), some (.int v10), none]) (st' := [.int (v13 + 1), .ref x0]) (fun _ => rfl) ?_
    obtain ⟨S14, hS14, h⟩ := obind h
    refine pE_pf rfl rfl rfl hS14 ?_
    refine pE_jump 2 (pc' := 77) (ls' := [some (.ref x0), some (.int x1), some (.int x2), some (.int v10), none]) (st' := [.ref x0, .ref x0]) (fun _ => rfl) ?_
    obtain ⟨v15, hv15, h⟩ := obind h
    refine pE_gfI rfl rfl hv15 ?_
    obtain ⟨⟨v17, S16⟩, hv17, h⟩ := obind h
    try dsimp only at h
    refine pE_iv (Bs := [.int v15]) (st := []) 1 rfl (Or.inl ⟨rfl, rfl⟩) rfl rfl (Nat.le_of_ble_eq_true rfl) (Nat.le_of_ble_eq_true rfl) (g_Reader_digitAt hv17) (f_Reader_digitAt sp d N S14 x0 v15 _ hv17) ?_
    refine pE_jump 3 (pc' := 88) (ls' := [some (.ref x0), some (.int x1), some (.int x2), some (.int v10), some (.int v17)]) (st' := [.int (-1), .int v17]) (fun _ => rfl) ?_
    refine pE_br (v17 = (-1)) rfl rfl (fun c24 => ?_) (fun c24 => ?_)
    · rw [if_pos c24] at h
      refine pE_weak [some (.ref x0), some (.int x1), some (.int x2), some (.int v10), none] ⟨rfl, ⟨rfl, ⟨rfl, ⟨rfl, trivial⟩⟩⟩⟩ ?_
      exact f_Reader_number_109 sp d N x0 x1 x2 v10 S16 _ h
    · rw [if_neg c24] at h
      refine pE_jump 8 (pc' := 101) (ls' := [some (.ref x0), some (.int x1), some (.int x2), some (.int ((10 * v10) + v17)), some (.int v17)]) (st' := [.ref x0, .ref x0]) (fun _ => rfl) ?_
      obtain ⟨v22, hv22, h⟩ := obind h
      refine pE_gfI rfl rfl hv22 ?_
      refine pE_jump 2 (pc' := 106) (ls' := [some (.ref x0), some (.int x1), some (.int x2), some (.int ((10 * v10) + v17)), some (.int v17)]) (st' := [.int (v22 + 1), .ref x0]) (fun _ => rfl) ?_
      obtain ⟨S23, hS23, h⟩ := obind h
      refine pE_pf rfl rfl rfl hS23 ?_
      refine pE_weak [some (.ref x0), some (.int x1), some (.int x2), some (.int ((10 * v10) + v17)), none] ⟨rfl, ⟨rfl, ⟨rfl, ⟨rfl, trivial⟩⟩⟩⟩ ?_
      exact f_Reader_number_109 sp d N x0 x1 x2 ((10 * v10) + v17) S23 _ h
  · have c25 := Decidable.not_not.mp c25
    rw [if_pos c25] at h
    refine pE_jump 2 (pc' := 57) (ls' := [some (.ref x0), some (.int x1), some (.int x2), some (.int v10), none]) (st' := [.ref x0, .ref x0]) (fun _ => rfl) ?_
    obtain ⟨v11, hv11, h⟩ := obind h
    refine pE_gfI rfl rfl hv11 ?_
    obtain ⟨S12, hS12, h⟩ := obind h
    refine pE_iv (Bs := [.int v11]) (st := []) 1 rfl (Or.inl ⟨rfl, rfl⟩) rfl rfl (Nat.le_of_ble_eq_true rfl) (Nat.le_of_ble_eq_true rfl) (g_Reader_fail hS12) (f_Reader_fail sp (d + 2) N S9 x0 v11 _ hS12) ?_
    refine pE_jump 1 (pc' := 64) (ls' := [some (.ref x0), some (.int x1), some (.int x2), some (.int v10), none]) (st' := [.int (-1)]) (fun _ => rfl) ?_
    cases h
    exact pE_ret rfl rfl rfl
def F_Reader_number (N : Nat) (S : pm_S) (a : Nat) (p0 : Int32) (p1 : Int32) : Option (Int32 × pm_S) :=
    if rcv S a 7 = true then
    ((oI S a 7 2).bind fun v1 =>
    if v1 = (-1) then
    ((oR S a 7 0).bind fun oq2 => match oq2 with
    | none => none
    | some q2 =>
    (oI S a 7 1).bind fun v4 =>
    (F_Tape_byteAt N S q2 v4).bind fun (v6, S5) =>
    if v6 = 32 then
    ((F_Reader_skipBlanks N S5 a).bind fun S7 =>
    F_Reader_number_41 N a p0 p1 S7)
    else
    ((oI S5 a 7 1).bind fun v26 =>
    (F_Reader_fail N S5 a v26).bind fun S27 =>
    F_Reader_number_41 N a p0 p1 S27))
    else
    some ((-1), S))
    else none
theorem g_Reader_number {N : Nat} {S : pm_S} {a : Nat} {p0 : Int32} {p1 : Int32} {r : (Int32 × pm_S)} (h : F_Reader_number N S a p0 p1 = some r) : rcv S a 7 = true := by
  unfold F_Reader_number at h
  by_cases c : rcv S a 7 = true
  · exact c
  · rw [if_neg c] at h; cases h
set_option maxHeartbeats 4000000 in
set_option maxRecDepth 20000 in
theorem f_Reader_number (sp : pm_I → List Value → pm_S → pm_O → Prop) (d N : Nat) (S : pm_S) (a : Nat) (p0 : Int32) (p1 : Int32) (r : (Int32 × pm_S)) (h : F_Reader_number N S a p0 p1 = some r) : pm_rel pG sp (d + 4) mi_Reader_number [.ref a, .int p0, .int p1] S (some (.int r.1), r.2) := by
  have hg := g_Reader_number h
  unfold F_Reader_number at h
  rw [if_pos hg] at h
  refine pE_rel (d := d + 3) ?_
  show pmE pG _ mi_Reader_number 0 [some (.ref a), some (.int p0), some (.int p1), none, none] [] S _
  refine pE_jump 1 (pc' := 1) (ls' := [some (.ref a), some (.int p0), some (.int p1), none, none]) (st' := [.ref a]) (fun _ => rfl) ?_
  obtain ⟨v1, hv1, h⟩ := obind h
  refine pE_gfI rfl rfl hv1 ?_
  refine pE_jump 1 (pc' := 5) (ls' := [some (.ref a), some (.int p0), some (.int p1), none, none]) (st' := [.int (-1), .int v1]) (fun _ => rfl) ?_
  refine pE_br (v1 = (-1)) rfl rfl (fun c29 => ?_) (fun c29 => ?_)
  · rw [if_pos c29] at h
    refine pE_jump 1 (pc' := 11) (ls' := [some (.ref a), some (.int p0), some (.int p1), none, none]) (st' := [.ref a]) (fun _ => rfl) ?_
    obtain ⟨oq2, hq2, h⟩ := obind h
    cases oq2 with
    | none => cases h
    | some q2 =>
      try dsimp only at h
      refine pE_gfS rfl rfl hq2 ?_
      refine pE_jump 1 (pc' := 15) (ls' := [some (.ref a), some (.int p0), some (.int p1), none, none]) (st' := [.ref a, .ref q2]) (fun _ => rfl) ?_
      obtain ⟨v4, hv4, h⟩ := obind h
      refine pE_gfI rfl rfl hv4 ?_
      obtain ⟨⟨v6, S5⟩, hv6, h⟩ := obind h
      try dsimp only at h
      refine pE_iv (Bs := [.int v4]) (st := []) 1 rfl (Or.inl ⟨rfl, rfl⟩) rfl rfl (Nat.le_of_ble_eq_true rfl) (Nat.le_of_ble_eq_true rfl) (g_Tape_byteAt hv6) (f_Tape_byteAt sp (d + 1) N S q2 v4 _ hv6) ?_
      refine pE_jump 1 (pc' := 23) (ls' := [some (.ref a), some (.int p0), some (.int p1), none, none]) (st' := [.int 32, .int v6]) (fun _ => rfl) ?_
      refine pE_br (¬ v6 = 32) rfl rfl (fun c28 => ?_) (fun c28 => ?_)
      · rw [if_neg c28] at h
        refine pE_jump 2 (pc' := 35) (ls' := [some (.ref a), some (.int p0), some (.int p1), none, none]) (st' := [.ref a, .ref a]) (fun _ => rfl) ?_
        obtain ⟨v26, hv26, h⟩ := obind h
        refine pE_gfI rfl rfl hv26 ?_
        obtain ⟨S27, hS27, h⟩ := obind h
        refine pE_iv (Bs := [.int v26]) (st := []) 1 rfl (Or.inl ⟨rfl, rfl⟩) rfl rfl (Nat.le_of_ble_eq_true rfl) (Nat.le_of_ble_eq_true rfl) (g_Reader_fail hS27) (f_Reader_fail sp (d + 2) N S5 a v26 _ hS27) ?_
        exact f_Reader_number_41 sp d N a p0 p1 S27 _ h
      · have c28 := Decidable.not_not.mp c28
        rw [if_pos c28] at h
        refine pE_jump 1 (pc' := 27) (ls' := [some (.ref a), some (.int p0), some (.int p1), none, none]) (st' := [.ref a]) (fun _ => rfl) ?_
        obtain ⟨S7, hS7, h⟩ := obind h
        refine pE_iv (Bs := []) (st := []) 1 rfl (Or.inl ⟨rfl, rfl⟩) rfl rfl (Nat.le_of_ble_eq_true rfl) (Nat.le_of_ble_eq_true rfl) (g_Reader_skipBlanks hS7) (f_Reader_skipBlanks sp d N S5 a _ hS7) ?_
        refine pE_jump 1 (pc' := 41) (ls' := [some (.ref a), some (.int p0), some (.int p1), none, none]) (st' := []) (fun _ => rfl) ?_
        exact f_Reader_number_41 sp d N a p0 p1 S7 _ h
  · rw [if_neg c29] at h
    refine pE_jump 1 (pc' := 9) (ls' := [some (.ref a), some (.int p0), some (.int p1), none, none]) (st' := [.int (-1)]) (fun _ => rfl) ?_
    cases h
    exact pE_ret rfl rfl rfl
def F_Reader_readBoxes (N : Nat) (S : pm_S) (a : Nat) (p0 : Nat) : Option pm_S :=
    if rcv S a 7 = true then
    ((F_Reader_skipBlanks N S a).bind fun S1 =>
    (oR S1 a 7 0).bind fun oq2 => match oq2 with
    | none => none
    | some q2 =>
    (oI S1 a 7 1).bind fun v4 =>
    (F_Tape_byteAt N S1 q2 v4).bind fun (v6, S5) =>
    if v6 = 98 then
    ((oI S5 a 7 1).bind fun v7 =>
    (wF S5 a 7 1 .int (.int (v7 + 1))).bind fun S8 =>
    (F_Reader_number N S8 a 2 8).bind fun (v10, S9) =>
    (wF S9 p0 4 0 .int (.int v10)).bind fun S11 =>
    some S11)
    else
    ((oI S5 a 7 1).bind fun v12 =>
    (F_Reader_fail N S5 a v12).bind fun S13 =>
    some S13))
    else none
theorem g_Reader_readBoxes {N : Nat} {S : pm_S} {a : Nat} {p0 : Nat} {r : pm_S} (h : F_Reader_readBoxes N S a p0 = some r) : rcv S a 7 = true := by
  unfold F_Reader_readBoxes at h
  by_cases c : rcv S a 7 = true
  · exact c
  · rw [if_neg c] at h; cases h
set_option maxHeartbeats 4000000 in
set_option maxRecDepth 20000 in
theorem f_Reader_readBoxes (sp : pm_I → List Value → pm_S → pm_O → Prop) (d N : Nat) (S : pm_S) (a : Nat) (p0 : Nat) (r : pm_S) (h : F_Reader_readBoxes N S a p0 = some r) : pm_rel pG sp (d + 5) mi_Reader_readBoxes [.ref a, .ref p0] S (none, r) := by
  have hg := g_Reader_readBoxes h
  unfold F_Reader_readBoxes at h
  rw [if_pos hg] at h
  refine pE_rel (d := d + 4) ?_
  show pmE pG _ mi_Reader_readBoxes 0 [some (.ref a), some (.ref p0)] [] S _
  refine pE_jump 1 (pc' := 1) (ls' := [some (.ref a), some (.ref p0)]) (st' := [.ref a]) (fun _ => rfl) ?_
  obtain ⟨S1, hS1, h⟩ := obind h
  refine pE_iv (Bs := []) (st := []) 1 rfl (Or.inl ⟨rfl, rfl⟩) rfl rfl (Nat.le_of_ble_eq_true rfl) (Nat.le_of_ble_eq_true rfl) (g_Reader_skipBlanks hS1) (f_Reader_skipBlanks sp (d + 1) N S a _ hS1) ?_
  refine pE_jump 1 (pc' := 5) (ls' := [some (.ref a), some (.ref p0)]) (st' := [.ref a]) (fun _ => rfl) ?_
  obtain ⟨oq2, hq2, h⟩ := obind h
  cases oq2 with
  | none => cases h
  | some q2 =>
    try dsimp only at h
    refine pE_gfS rfl rfl hq2 ?_
    refine pE_jump 1 (pc' := 9) (ls' := [some (.ref a), some (.ref p0)]) (st' := [.ref a, .ref q2]) (fun _ => rfl) ?_
    obtain ⟨v4, hv4, h⟩ := obind h
    refine pE_gfI rfl rfl hv4 ?_
    obtain ⟨⟨v6, S5⟩, hv6, h⟩ := obind h
    try dsimp only at h
    refine pE_iv (Bs := [.int v4]) (st := []) 1 rfl (Or.inl ⟨rfl, rfl⟩) rfl rfl (Nat.le_of_ble_eq_true rfl) (Nat.le_of_ble_eq_true rfl) (g_Tape_byteAt hv6) (f_Tape_byteAt sp (d + 2) N S1 q2 v4 _ hv6) ?_
    refine pE_jump 1 (pc' := 17) (ls' := [some (.ref a), some (.ref p0)]) (st' := [.int 98, .int v6]) (fun _ => rfl) ?_
    refine pE_br (v6 = 98) rfl rfl (fun c14 => ?_) (fun c14 => ?_)
    · rw [if_pos c14] at h
      refine pE_jump 2 (pc' := 31) (ls' := [some (.ref a), some (.ref p0)]) (st' := [.ref a, .ref a]) (fun _ => rfl) ?_
      obtain ⟨v7, hv7, h⟩ := obind h
      refine pE_gfI rfl rfl hv7 ?_
      refine pE_jump 2 (pc' := 36) (ls' := [some (.ref a), some (.ref p0)]) (st' := [.int (v7 + 1), .ref a]) (fun _ => rfl) ?_
      obtain ⟨S8, hS8, h⟩ := obind h
      refine pE_pf rfl rfl rfl hS8 ?_
      refine pE_jump 4 (pc' := 44) (ls' := [some (.ref a), some (.ref p0)]) (st' := [.int 8, .int 2, .ref a, .ref p0]) (fun _ => rfl) ?_
      obtain ⟨⟨v10, S9⟩, hv10, h⟩ := obind h
      try dsimp only at h
      refine pE_iv (Bs := [.int 2, .int 8]) (st := [.ref p0]) 1 rfl (Or.inl ⟨rfl, rfl⟩) rfl rfl (Nat.le_of_ble_eq_true rfl) (Nat.le_of_ble_eq_true rfl) (g_Reader_number hv10) (f_Reader_number sp d N S8 a 2 8 _ hv10) ?_
      obtain ⟨S11, hS11, h⟩ := obind h
      refine pE_pf rfl rfl rfl hS11 ?_
      cases h
      exact pE_ret rfl rfl rfl
    · rw [if_neg c14] at h
      refine pE_jump 2 (pc' := 22) (ls' := [some (.ref a), some (.ref p0)]) (st' := [.ref a, .ref a]) (fun _ => rfl) ?_
      obtain ⟨v12, hv12, h⟩ := obind h
      refine pE_gfI rfl rfl hv12 ?_
      obtain ⟨S13, hS13, h⟩ := obind h
      refine pE_iv (Bs := [.int v12]) (st := []) 1 rfl (Or.inl ⟨rfl, rfl⟩) rfl rfl (Nat.le_of_ble_eq_true rfl) (Nat.le_of_ble_eq_true rfl) (g_Reader_fail hS13) (f_Reader_fail sp (d + 3) N S5 a v12 _ hS13) ?_
      cases h
      exact pE_ret rfl rfl rfl
def F_Reader_comesMore_23 (N : Nat)  (t0 : Int32) (S : pm_S) : Option (Int32 × pm_S) :=
    if t0 = 0 ∨ t0 = 1 then some (t0, S) else none
set_option maxHeartbeats 4000000 in
set_option maxRecDepth 20000 in
theorem f_Reader_comesMore_23 (sp : pm_I → List Value → pm_S → pm_O → Prop) (d N : Nat)  (t0 : Int32) (S : pm_S)  (r : (Int32 × pm_S)) (h : F_Reader_comesMore_23 N  t0 S = some r) : pmE pG (pm_rel pG sp (d + 3)) mi_Reader_comesMore 23 [none] [.int t0] S (some (.int r.1), r.2) := by
  unfold F_Reader_comesMore_23 at h
  by_cases c6 : t0 = 0 ∨ t0 = 1
  · rw [if_pos c6] at h
    cases h
    exact pE_ret rfl (if_pos c6) rfl
  · rw [if_neg c6] at h
    cases h
def F_Reader_comesMore (N : Nat) (S : pm_S) (a : Nat) : Option (Int32 × pm_S) :=
    if rcv S a 7 = true then
    ((F_Reader_skipBlanks N S a).bind fun S1 =>
    (oI S1 a 7 1).bind fun v2 =>
    (oR S1 a 7 0).bind fun oq3 => match oq3 with
    | none => none
    | some q3 =>
    (F_Tape_size N S1 q3).bind fun (v5, S4) =>
    if v5 ≤ v2 then
    F_Reader_comesMore_23 N 0 S4
    else
    F_Reader_comesMore_23 N 1 S4)
    else none
theorem g_Reader_comesMore {N : Nat} {S : pm_S} {a : Nat} {r : (Int32 × pm_S)} (h : F_Reader_comesMore N S a = some r) : rcv S a 7 = true := by
  unfold F_Reader_comesMore at h
  by_cases c : rcv S a 7 = true
  · exact c
  · rw [if_neg c] at h; cases h
set_option maxHeartbeats 4000000 in
set_option maxRecDepth 20000 in
theorem f_Reader_comesMore (sp : pm_I → List Value → pm_S → pm_O → Prop) (d N : Nat) (S : pm_S) (a : Nat) (r : (Int32 × pm_S)) (h : F_Reader_comesMore N S a = some r) : pm_rel pG sp (d + 4) mi_Reader_comesMore [.ref a] S (some (.int r.1), r.2) := by
  have hg := g_Reader_comesMore h
  unfold F_Reader_comesMore at h
  rw [if_pos hg] at h
  refine pE_rel (d := d + 3) ?_
  show pmE pG _ mi_Reader_comesMore 0 [some (.ref a)] [] S _
  refine pE_jump 1 (pc' := 1) (ls' := [some (.ref a)]) (st' := [.ref a]) (fun _ => rfl) ?_
  obtain ⟨S1, hS1, h⟩ := obind h
  refine pE_iv (Bs := []) (st := []) 1 rfl (Or.inl ⟨rfl, rfl⟩) rfl rfl (Nat.le_of_ble_eq_true rfl) (Nat.le_of_ble_eq_true rfl) (g_Reader_skipBlanks hS1) (f_Reader_skipBlanks sp d N S a _ hS1) ?_
  refine pE_jump 1 (pc' := 5) (ls' := [some (.ref a)]) (st' := [.ref a]) (fun _ => rfl) ?_
  obtain ⟨v2, hv2, h⟩ := obind h
  refine pE_gfI rfl rfl hv2 ?_
  refine pE_jump 1 (pc' := 9) (ls' := [some (.ref a)]) (st' := [.ref a, .int v2]) (fun _ => rfl) ?_
  obtain ⟨oq3, hq3, h⟩ := obind h
  cases oq3 with
  | none => cases h
  | some q3 =>
    try dsimp only at h
    refine pE_gfS rfl rfl hq3 ?_
    obtain ⟨⟨v5, S4⟩, hv5, h⟩ := obind h
    try dsimp only at h
    refine pE_iv (Bs := []) (st := [.int v2]) 1 rfl (Or.inl ⟨rfl, rfl⟩) rfl rfl (Nat.le_of_ble_eq_true rfl) (Nat.le_of_ble_eq_true rfl) (g_Tape_size hv5) (f_Tape_size sp (d + 2) N S1 q3 _ hv5) ?_
    refine pE_br (v5 ≤ v2) rfl rfl (fun c7 => ?_) (fun c7 => ?_)
    · rw [if_pos c7] at h
      refine pE_jump 1 (pc' := 23) (ls' := [some (.ref a)]) (st' := [.int 0]) (fun _ => rfl) ?_
      refine pE_weak [none] trivial ?_
      exact f_Reader_comesMore_23 sp d N 0 S4 _ h
    · rw [if_neg c7] at h
      refine pE_jump 2 (pc' := 23) (ls' := [some (.ref a)]) (st' := [.int 1]) (fun _ => rfl) ?_
      refine pE_weak [none] trivial ?_
      exact f_Reader_comesMore_23 sp d N 1 S4 _ h
def F_Plan_hasBox_17 (N : Nat)  (t0 : Int32) (S : pm_S) : Option (Int32 × pm_S) :=
    if t0 = 0 ∨ t0 = 1 then some (t0, S) else none
set_option maxHeartbeats 4000000 in
set_option maxRecDepth 20000 in
theorem f_Plan_hasBox_17 (sp : pm_I → List Value → pm_S → pm_O → Prop) (d N : Nat)  (t0 : Int32) (S : pm_S)  (r : (Int32 × pm_S)) (h : F_Plan_hasBox_17 N  t0 S = some r) : pmE pG (pm_rel pG sp (d + 0)) mi_Plan_hasBox 17 [none, none] [.int t0] S (some (.int r.1), r.2) := by
  unfold F_Plan_hasBox_17 at h
  by_cases c1 : t0 = 0 ∨ t0 = 1
  · rw [if_pos c1] at h
    cases h
    exact pE_ret rfl (if_pos c1) rfl
  · rw [if_neg c1] at h
    cases h
def F_Plan_hasBox_16 (N : Nat)   (S : pm_S) : Option (Int32 × pm_S) :=
    F_Plan_hasBox_17 N 0 S
set_option maxHeartbeats 4000000 in
set_option maxRecDepth 20000 in
theorem f_Plan_hasBox_16 (sp : pm_I → List Value → pm_S → pm_O → Prop) (d N : Nat)   (S : pm_S)  (r : (Int32 × pm_S)) (h : F_Plan_hasBox_16 N   S = some r) : pmE pG (pm_rel pG sp (d + 0)) mi_Plan_hasBox 16 [none, none] [] S (some (.int r.1), r.2) := by
  unfold F_Plan_hasBox_16 at h
  refine pE_jump 1 (pc' := 17) (ls' := [none, none]) (st' := [.int 0]) (fun _ => rfl) ?_
  exact f_Plan_hasBox_17 sp d N 0 S _ h
def F_Plan_hasBox (N : Nat) (S : pm_S) (a : Nat) (p0 : Int32) : Option (Int32 × pm_S) :=
    if rcv S a 4 = true then
    (if p0 < 0 then
    F_Plan_hasBox_16 N S
    else
    ((oI S a 4 0).bind fun v2 =>
    if v2 ≤ p0 then
    F_Plan_hasBox_16 N S
    else
    F_Plan_hasBox_17 N 1 S))
    else none
theorem g_Plan_hasBox {N : Nat} {S : pm_S} {a : Nat} {p0 : Int32} {r : (Int32 × pm_S)} (h : F_Plan_hasBox N S a p0 = some r) : rcv S a 4 = true := by
  unfold F_Plan_hasBox at h
  by_cases c : rcv S a 4 = true
  · exact c
  · rw [if_neg c] at h; cases h
set_option maxHeartbeats 4000000 in
set_option maxRecDepth 20000 in
theorem f_Plan_hasBox (sp : pm_I → List Value → pm_S → pm_O → Prop) (d N : Nat) (S : pm_S) (a : Nat) (p0 : Int32) (r : (Int32 × pm_S)) (h : F_Plan_hasBox N S a p0 = some r) : pm_rel pG sp (d + 1) mi_Plan_hasBox [.ref a, .int p0] S (some (.int r.1), r.2) := by
  have hg := g_Plan_hasBox h
  unfold F_Plan_hasBox at h
  rw [if_pos hg] at h
  refine pE_rel (d := d + 0) ?_
  show pmE pG _ mi_Plan_hasBox 0 [some (.ref a), some (.int p0)] [] S _
  refine pE_jump 1 (pc' := 1) (ls' := [some (.ref a), some (.int p0)]) (st' := [.int p0]) (fun _ => rfl) ?_
  refine pE_br (p0 < 0) rfl rfl (fun c4 => ?_) (fun c4 => ?_)
  · rw [if_pos c4] at h
    refine pE_weak [none, none] trivial ?_
    exact f_Plan_hasBox_16 sp d N S _ h
  · rw [if_neg c4] at h
    refine pE_jump 2 (pc' := 6) (ls' := [some (.ref a), some (.int p0)]) (st' := [.ref a, .int p0]) (fun _ => rfl) ?_
    obtain ⟨v2, hv2, h⟩ := obind h
    refine pE_gfI rfl rfl hv2 ?_
    refine pE_br (v2 ≤ p0) rfl rfl (fun c3 => ?_) (fun c3 => ?_)
    · rw [if_pos c3] at h
      refine pE_weak [none, none] trivial ?_
      exact f_Plan_hasBox_16 sp d N S _ h
    · rw [if_neg c3] at h
      refine pE_jump 2 (pc' := 17) (ls' := [some (.ref a), some (.int p0)]) (st' := [.int 1]) (fun _ => rfl) ?_
      refine pE_weak [none, none] trivial ?_
      exact f_Plan_hasBox_17 sp d N 1 S _ h
def F_Plan_cableTo_20 (N : Nat)  (t0 : Int32) (S : pm_S) : Option (Int32 × pm_S) :=
    some (t0, S)
set_option maxHeartbeats 4000000 in
set_option maxRecDepth 20000 in
theorem f_Plan_cableTo_20 (sp : pm_I → List Value → pm_S → pm_O → Prop) (d N : Nat)  (t0 : Int32) (S : pm_S)  (r : (Int32 × pm_S)) (h : F_Plan_cableTo_20 N  t0 S = some r) : pmE pG (pm_rel pG sp (d + 1)) mi_Plan_cableTo 20 [none, none] [.int t0] S (some (.int r.1), r.2) := by
  unfold F_Plan_cableTo_20 at h
  cases h
  exact pE_ret rfl rfl rfl
def F_Plan_cableTo (N : Nat) (S : pm_S) (a : Nat) (p0 : Int32) : Option (Int32 × pm_S) :=
    if rcv S a 4 = true then
    ((F_Plan_hasBox N S a p0).bind fun (v2, S1) =>
    if v2 = 0 then
    F_Plan_cableTo_20 N (-1) S1
    else
    ((oR S1 a 4 2).bind fun oq3 => match oq3 with
    | none => none
    | some q3 =>
    (F_BP_valueAt N S1 q3 p0).bind fun (v5, S4) =>
    F_Plan_cableTo_20 N v5 S4))
    else none
theorem g_Plan_cableTo {N : Nat} {S : pm_S} {a : Nat} {p0 : Int32} {r : (Int32 × pm_S)} (h : F_Plan_cableTo N S a p0 = some r) : rcv S a 4 = true := by
  unfold F_Plan_cableTo at h
  by_cases c : rcv S a 4 = true
  · exact c
  · rw [if_neg c] at h; cases h
set_option maxHeartbeats 4000000 in
set_option maxRecDepth 20000 in
theorem f_Plan_cableTo (sp : pm_I → List Value → pm_S → pm_O → Prop) (d N : Nat) (S : pm_S) (a : Nat) (p0 : Int32) (r : (Int32 × pm_S)) (h : F_Plan_cableTo N S a p0 = some r) : pm_rel pG sp (d + 2) mi_Plan_cableTo [.ref a, .int p0] S (some (.int r.1), r.2) := by
  have hg := g_Plan_cableTo h
  unfold F_Plan_cableTo at h
  rw [if_pos hg] at h
  refine pE_rel (d := d + 1) ?_
  show pmE pG _ mi_Plan_cableTo 0 [some (.ref a), some (.int p0)] [] S _
  refine pE_jump 2 (pc' := 2) (ls' := [some (.ref a), some (.int p0)]) (st' := [.int p0, .ref a]) (fun _ => rfl) ?_
  obtain ⟨⟨v2, S1⟩, hv2, h⟩ := obind h
  try dsimp only at h
  refine pE_iv (Bs := [.int p0]) (st := []) 1 rfl (Or.inl ⟨rfl, rfl⟩) rfl rfl (Nat.le_of_ble_eq_true rfl) (Nat.le_of_ble_eq_true rfl) (g_Plan_hasBox hv2) (f_Plan_hasBox sp d N S a p0 _ hv2) ?_
  refine pE_br (v2 = 0) rfl rfl (fun c6 => ?_) (fun c6 => ?_)
  · rw [if_pos c6] at h
    refine pE_jump 1 (pc' := 20) (ls' := [some (.ref a), some (.int p0)]) (st' := [.int (-1)]) (fun _ => rfl) ?_
    refine pE_weak [none, none] trivial ?_
    exact f_Plan_cableTo_20 sp d N (-1) S1 _ h
  · rw [if_neg c6] at h
    refine pE_jump 1 (pc' := 9) (ls' := [some (.ref a), some (.int p0)]) (st' := [.ref a]) (fun _ => rfl) ?_
    obtain ⟨oq3, hq3, h⟩ := obind h
    cases oq3 with
    | none => cases h
    | some q3 =>
      try dsimp only at h
      refine pE_gfS rfl rfl hq3 ?_
      refine pE_jump 1 (pc' := 13) (ls' := [some (.ref a), some (.int p0)]) (st' := [.int p0, .ref q3]) (fun _ => rfl) ?_
      obtain ⟨⟨v5, S4⟩, hv5, h⟩ := obind h
      try dsimp only at h
      refine pE_is (Bs := [.ref q3, .int p0]) (st := []) rfl rfl rfl (Nat.le_of_ble_eq_true rfl) (Nat.le_of_ble_eq_true rfl) (f_BP_valueAt sp d N S1 q3 p0 _ hv5) ?_
      refine pE_jump 1 (pc' := 20) (ls' := [some (.ref a), some (.int p0)]) (st' := [.int v5]) (fun _ => rfl) ?_
      refine pE_weak [none, none] trivial ?_
      exact f_Plan_cableTo_20 sp d N v5 S4 _ h
