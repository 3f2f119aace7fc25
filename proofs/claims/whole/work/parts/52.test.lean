def F_Arr_fill_20 (N : Nat)   (S : pm_S) : Option pm_S :=
    some S
set_option maxHeartbeats 4000000 in
set_option maxRecDepth 20000 in
theorem f_Arr_fill_20 (sp : pm_I → List Value → pm_S → pm_O → Prop) (d N : Nat)   (S : pm_S) (r : pm_S) (h : F_Arr_fill_20 N   S = some r) : pm_E pG (pm_rel pG sp (d + 0)) mi_Arr_fill 20 [none, none, none, none] [] S (none, r) := by
  unfold F_Arr_fill_20 at h
  cases h
  exact pE_ret rfl rfl rfl
def B_Arr_fill_5 (N : Nat)  (rec5 : Int32 → pm_S → Option pm_S) (x0 : Nat) (x1 : Int32) (x3 : Int32) (x2 : Int32) (S : pm_S) : Option pm_S :=
    if x3 ≤ x2 then
    F_Arr_fill_20 N S
    else
    ((sI [0] S x0 x2 x1).bind fun S2 =>
    rec5 (x2 + 1) S2)
def F_Arr_fill_5 (N : Nat)  (x0 : Nat) (x1 : Int32) (x3 : Int32) : Nat → Int32 → pm_S → Option pm_S
  | 0 => fun _ _ => none
  | n + 1 => fun x2 S => B_Arr_fill_5 N  (F_Arr_fill_5 N  x0 x1 x3 n) x0 x1 x3 x2 S
set_option maxHeartbeats 4000000 in
set_option maxRecDepth 20000 in
theorem f_Arr_fill_5 (sp : pm_I → List Value → pm_S → pm_O → Prop) (d N : Nat)  (x0 : Nat) (x1 : Int32) (x3 : Int32) : ∀ (n : Nat) (x2 : Int32) (S : pm_S) (r : pm_S), F_Arr_fill_5 N  x0 x1 x3 n x2 S = some r → pm_E pG (pm_rel pG sp (d + 0)) mi_Arr_fill 5 [some (.ref x0), some (.int x1), some (.int x2), some (.int x3)] [] S (none, r) := by
  intro n
  induction n with
  | zero =>
    intro x2 S r h
    cases h
  | succ n ih =>
    intro x2 S r h
    replace h : B_Arr_fill_5 N  (F_Arr_fill_5 N  x0 x1 x3 n) x0 x1 x3 x2 S = some r := h
    have hrec5 := ih
    generalize F_Arr_fill_5 N  x0 x1 x3 n = rec5 at h hrec5
    unfold B_Arr_fill_5 at h
    refine pE_jump 2 (pc' := 7) (ls' := [some (.ref x0), some (.int x1), some (.int x2), some (.int x3)]) (st' := [.int x3, .int x2]) (fun _ => rfl) ?_
    refine pE_br (x3 ≤ x2) rfl rfl (fun c3 => ?_) (fun c3 => ?_)
    · rw [if_pos c3] at h
      refine pE_weak [none, none, none, none] trivial ?_
      exact f_Arr_fill_20 sp d N S _ h
    · rw [if_neg c3] at h
      refine pE_jump 3 (pc' := 13) (ls' := [some (.ref x0), some (.int x1), some (.int x2), some (.int x3)]) (st' := [.int x1, .int x2, .ref x0]) (fun _ => rfl) ?_
      obtain ⟨S2, hS2, h⟩ := obind h
      refine pE_sI rfl rfl hS2 ?_
      refine pE_jump 2 (pc' := 5) (ls' := [some (.ref x0), some (.int x1), some (.int (x2 + 1)), some (.int x3)]) (st' := []) (fun _ => rfl) ?_
      exact hrec5 (x2 + 1) S2 _ h
def F_Arr_fill (N : Nat) (S : pm_S) (p0 : Nat) (p1 : Int32) : Option pm_S :=
    (aNS S p0).bind fun v1 =>
    F_Arr_fill_5 N p0 p1 v1 N 0 S
set_option maxHeartbeats 4000000 in
set_option maxRecDepth 20000 in
theorem f_Arr_fill (sp : pm_I → List Value → pm_S → pm_O → Prop) (d N : Nat) (S : pm_S) (p0 : Nat) (p1 : Int32) (r : pm_S) (h : F_Arr_fill N S p0 p1 = some r) : pm_rel pG sp (d + 1) mi_Arr_fill [.ref p0, .int p1] S (none, r) := by
  unfold F_Arr_fill at h
  refine pE_rel (d := d + 0) ?_
  show pm_E pG _ mi_Arr_fill 0 [some (.ref p0), some (.int p1), none, none] [] S _
  refine pE_jump 3 (pc' := 3) (ls' := [some (.ref p0), some (.int p1), some (.int 0), none]) (st' := [.ref p0]) (fun _ => rfl) ?_
  obtain ⟨v1, hv1, h⟩ := obind h
  refine pE_aN rfl hv1 ?_
  refine pE_jump 1 (pc' := 5) (ls' := [some (.ref p0), some (.int p1), some (.int 0), some (.int v1)]) (st' := []) (fun _ => rfl) ?_
  exact f_Arr_fill_5 sp d N p0 p1 v1 N 0 S _ h
def F_Ledger_init (N : Nat) (S : pm_S) (a : Nat) (p0 : Int32) : Option pm_S :=
    if rcv S a 2 = true then
    (if pm_my S a = true then
    ((wF S a 2 1 .int (.int (if 0 < p0 then p0 else 0))).bind fun S2 =>
    (oI S2 a 2 1).bind fun v3 =>
    (nA S2 0 (5 * v3)).bind fun (q4, S5) =>
    (wF S5 a 2 0 (.array .int) (.ref q4)).bind fun S6 =>
    (wF S6 a 2 2 .int (.int 0)).bind fun S7 =>
    some S7)
    else none)
    else none
theorem g_Ledger_init {N : Nat} {S : pm_S} {a : Nat} {p0 : Int32} {r : pm_S} (h : F_Ledger_init N S a p0 = some r) : rcv S a 2 = true := by
  unfold F_Ledger_init at h
  by_cases c : rcv S a 2 = true
  · exact c
  · rw [if_neg c] at h; cases h
set_option maxHeartbeats 4000000 in
set_option maxRecDepth 20000 in
theorem f_Ledger_init (sp : pm_I → List Value → pm_S → pm_O → Prop) (d N : Nat) (S : pm_S) (a : Nat) (p0 : Int32) (r : pm_S) (h : F_Ledger_init N S a p0 = some r) : pm_rel pG sp (d + 1) mi_Ledger_init [.ref a, .int p0] S (none, r) := by
  have hg := g_Ledger_init h
  unfold F_Ledger_init at h
  rw [if_pos hg] at h
  refine pE_rel (d := d + 0) ?_
  show pm_E pG _ mi_Ledger_init 0 [some (.ref a), some (.int p0)] [] S _
  refine pE_jump 1 (pc' := 1) (ls' := [some (.ref a), some (.int p0)]) (st' := [.ref a]) (fun _ => rfl) ?_
  by_cases c1 : pm_my S a = true
  case neg => rw [if_neg c1] at h; cases h
  rw [if_pos c1] at h
  refine pE_obj rfl rfl (by decide) c1 ?_
  refine pE_jump 3 (pc' := 7) (ls' := [some (.ref a), some (.int p0)]) (st' := [.int p0, .int 0, .ref a]) (fun _ => rfl) ?_
  refine pE_mx 5 rfl rfl (by decide) rfl ?_
  obtain ⟨S2, hS2, h⟩ := obind h
  refine pE_pf rfl rfl rfl hS2 ?_
  refine pE_jump 3 (pc' := 16) (ls' := [some (.ref a), some (.int p0)]) (st' := [.ref a, .int 5, .ref a]) (fun _ => rfl) ?_
  obtain ⟨v3, hv3, h⟩ := obind h
  refine pE_gfI rfl rfl hv3 ?_
  refine pE_jump 1 (pc' := 20) (ls' := [some (.ref a), some (.int p0)]) (st' := [.int (5 * v3), .ref a]) (fun _ => rfl) ?_
  obtain ⟨⟨q4, S5⟩, hq4, h⟩ := obind h
  refine pE_nA rfl rfl hq4 ?_
  dsimp only at h
  obtain ⟨S6, hS6, h⟩ := obind h
  refine pE_pf rfl rfl rfl hS6 ?_
  refine pE_jump 2 (pc' := 27) (ls' := [some (.ref a), some (.int p0)]) (st' := [.int 0, .ref a]) (fun _ => rfl) ?_
  obtain ⟨S7, hS7, h⟩ := obind h
  refine pE_pf rfl rfl rfl hS7 ?_
  cases h
  exact pE_ret rfl rfl rfl
def F_BP_setAt_14 (N : Nat)   (S : pm_S) : Option pm_S :=
    some S
set_option maxHeartbeats 4000000 in
set_option maxRecDepth 20000 in
theorem f_BP_setAt_14 (sp : pm_I → List Value → pm_S → pm_O → Prop) (d N : Nat)   (S : pm_S) (r : pm_S) (h : F_BP_setAt_14 N   S = some r) : pm_E pG (pm_rel pG sp (d + 0)) mi_BP_setAt 14 [none, none, none] [] S (none, r) := by
  unfold F_BP_setAt_14 at h
  cases h
  exact pE_ret rfl rfl rfl
def F_BP_setAt (N : Nat) (S : pm_S) (p0 : Nat) (p1 : Int32) (p2 : Int32) : Option pm_S :=
    if p1 < 0 then
    F_BP_setAt_14 N S
    else
    ((aNS S p0).bind fun v1 =>
    if v1 ≤ p1 then
    F_BP_setAt_14 N S
    else
    ((sI [0] S p0 p1 p2).bind fun S2 =>
    F_BP_setAt_14 N S2))
set_option maxHeartbeats 4000000 in
set_option maxRecDepth 20000 in
theorem f_BP_setAt (sp : pm_I → List Value → pm_S → pm_O → Prop) (d N : Nat) (S : pm_S) (p0 : Nat) (p1 : Int32) (p2 : Int32) (r : pm_S) (h : F_BP_setAt N S p0 p1 p2 = some r) : pm_rel pG sp (d + 1) mi_BP_setAt [.ref p0, .int p1, .int p2] S (none, r) := by
  unfold F_BP_setAt at h
  refine pE_rel (d := d + 0) ?_
  show pm_E pG _ mi_BP_setAt 0 [some (.ref p0), some (.int p1), some (.int p2)] [] S _
  refine pE_jump 1 (pc' := 1) (ls' := [some (.ref p0), some (.int p1), some (.int p2)]) (st' := [.int p1]) (fun _ => rfl) ?_
  refine pE_br (p1 < 0) rfl rfl (fun c4 => ?_) (fun c4 => ?_)
  · rw [if_pos c4] at h
    refine pE_weak [none, none, none] trivial ?_
    exact f_BP_setAt_14 sp d N S _ h
  · rw [if_neg c4] at h
    refine pE_jump 2 (pc' := 6) (ls' := [some (.ref p0), some (.int p1), some (.int p2)]) (st' := [.ref p0, .int p1]) (fun _ => rfl) ?_
    obtain ⟨v1, hv1, h⟩ := obind h
    refine pE_aN rfl hv1 ?_
    refine pE_br (v1 ≤ p1) rfl rfl (fun c3 => ?_) (fun c3 => ?_)
    · rw [if_pos c3] at h
      refine pE_weak [none, none, none] trivial ?_
      exact f_BP_setAt_14 sp d N S _ h
    · rw [if_neg c3] at h
      refine pE_jump 3 (pc' := 13) (ls' := [some (.ref p0), some (.int p1), some (.int p2)]) (st' := [.int p2, .int p1, .ref p0]) (fun _ => rfl) ?_
      obtain ⟨S2, hS2, h⟩ := obind h
      refine pE_sI rfl rfl hS2 ?_
      refine pE_weak [none, none, none] trivial ?_
      exact f_BP_setAt_14 sp d N S2 _ h
def F_Tape_take_59 (N : Nat)   (S : pm_S) : Option pm_S :=
    some S
set_option maxHeartbeats 4000000 in
set_option maxRecDepth 20000 in
theorem f_Tape_take_59 (sp : pm_I → List Value → pm_S → pm_O → Prop) (d N : Nat)   (S : pm_S) (r : pm_S) (h : F_Tape_take_59 N   S = some r) : pm_E pG (pm_rel pG sp (d + 1)) mi_Tape_take 59 [none, none, none, none] [] S (none, r) := by
  unfold F_Tape_take_59 at h
  cases h
  exact pE_ret rfl rfl rfl
def F_Tape_take_53 (N : Nat) (rec3 : Int32 → pm_S → Option pm_S) (x0 : Nat) (x1 : Int32) (x2 : Int32) (S : pm_S) : Option pm_S :=
    rec3 (x2 + (-8)) S
set_option maxHeartbeats 4000000 in
set_option maxRecDepth 20000 in
theorem f_Tape_take_53 (sp : pm_I → List Value → pm_S → pm_O → Prop) (d N : Nat) (rec3 : Int32 → pm_S → Option pm_S) (hrec3 : ∀ (y1 : Int32) (U : pm_S) (r : pm_S), rec3 y1 U = some r → pm_E pG (pm_rel pG sp (d + 1)) mi_Tape_take 3 [some (.ref x0), some (.int x1), some (.int y1), none] [] U (none, r)) (x0 : Nat) (x1 : Int32) (x2 : Int32) (S : pm_S) (r : pm_S) (h : F_Tape_take_53 N rec3 x0 x1 x2 S = some r) : pm_E pG (pm_rel pG sp (d + 1)) mi_Tape_take 53 [some (.ref x0), some (.int x1), some (.int x2), none] [] S (none, r) := by
  unfold F_Tape_take_53 at h
  refine pE_jump 2 (pc' := 3) (ls' := [some (.ref x0), some (.int x1), some (.int (x2 + (-8))), none]) (st' := []) (fun _ => rfl) ?_
  exact hrec3 (x2 + (-8)) S _ h
def B_Tape_take_3 (N : Nat)  (rec3 : Int32 → pm_S → Option pm_S) (x0 : Nat) (x1 : Int32) (x2 : Int32) (S : pm_S) : Option pm_S :=
    if x2 < 0 then
    F_Tape_take_59 N S
    else
    (if (((x1.toUInt32 >>> (Int32.toUInt32 x2 &&& Int32.toUInt32 31)).toInt32) &&& 255) = 0 then
    F_Tape_take_53 N rec3 x0 x1 x2 S
    else
    ((oI S x0 6 1).bind fun v1 =>
    (oR S x0 6 0).bind fun oq2 => match oq2 with
    | none => none
    | some q2 =>
    (aNS S q2).bind fun v3 =>
    if v3 ≤ v1 then
    F_Tape_take_53 N rec3 x0 x1 x2 S
    else
    ((oR S x0 6 0).bind fun oq4 => match oq4 with
    | none => none
    | some q4 =>
    (oI S x0 6 1).bind fun v6 =>
    (F_BP_setAt N S q4 v6 (((x1.toUInt32 >>> (Int32.toUInt32 x2 &&& Int32.toUInt32 31)).toInt32) &&& 255)).bind fun S7 =>
    (oI S7 x0 6 1).bind fun v8 =>
    (wF S7 x0 6 1 .int (.int (v8 + 1))).bind fun S9 =>
    F_Tape_take_53 N rec3 x0 x1 x2 S9)))
def F_Tape_take_3 (N : Nat)  (x0 : Nat) (x1 : Int32) : Nat → Int32 → pm_S → Option pm_S
  | 0 => fun _ _ => none
  | n + 1 => fun x2 S => B_Tape_take_3 N  (F_Tape_take_3 N  x0 x1 n) x0 x1 x2 S
set_option maxHeartbeats 4000000 in
set_option maxRecDepth 20000 in
theorem f_Tape_take_3 (sp : pm_I → List Value → pm_S → pm_O → Prop) (d N : Nat)  (x0 : Nat) (x1 : Int32) : ∀ (n : Nat) (x2 : Int32) (S : pm_S) (r : pm_S), F_Tape_take_3 N  x0 x1 n x2 S = some r → pm_E pG (pm_rel pG sp (d + 1)) mi_Tape_take 3 [some (.ref x0), some (.int x1), some (.int x2), none] [] S (none, r) := by
  intro n
  induction n with
  | zero =>
    intro x2 S r h
    cases h
  | succ n ih =>
    intro x2 S r h
    replace h : B_Tape_take_3 N  (F_Tape_take_3 N  x0 x1 n) x0 x1 x2 S = some r := h
    have hrec3 := ih
    generalize F_Tape_take_3 N  x0 x1 n = rec3 at h hrec3
    unfold B_Tape_take_3 at h
    refine pE_jump 1 (pc' := 4) (ls' := [some (.ref x0), some (.int x1), some (.int x2), none]) (st' := [.int x2]) (fun _ => rfl) ?_
    refine pE_br (x2 < 0) rfl rfl (fun c12 => ?_) (fun c12 => ?_)
    · rw [if_pos c12] at h
      refine pE_weak [none, none, none, none] trivial ?_
      exact f_Tape_take_59 sp d N S _ h
    · rw [if_neg c12] at h
      refine pE_jump 7 (pc' := 16) (ls' := [some (.ref x0), some (.int x1), some (.int x2), some (.int (((x1.toUInt32 >>> (Int32.toUInt32 x2 &&& Int32.toUInt32 31)).toInt32) &&& 255))]) (st' := [.int (((x1.toUInt32 >>> (Int32.toUInt32 x2 &&& Int32.toUInt32 31)).toInt32) &&& 255)]) (fun _ => rfl) ?_
      refine pE_br ((((x1.toUInt32 >>> (Int32.toUInt32 x2 &&& Int32.toUInt32 31)).toInt32) &&& 255) = 0) rfl rfl (fun c11 => ?_) (fun c11 => ?_)
      · rw [if_pos c11] at h
        refine pE_weak [some (.ref x0), some (.int x1), some (.int x2), none] ⟨rfl, ⟨rfl, ⟨rfl, trivial⟩⟩⟩ ?_
        exact f_Tape_take_53 sp d N rec3 hrec3 x0 x1 x2 S _ h
      · rw [if_neg c11] at h
        refine pE_jump 1 (pc' := 20) (ls' := [some (.ref x0), some (.int x1), some (.int x2), some (.int (((x1.toUInt32 >>> (Int32.toUInt32 x2 &&& Int32.toUInt32 31)).toInt32) &&& 255))]) (st' := [.ref x0]) (fun _ => rfl) ?_
        obtain ⟨v1, hv1, h⟩ := obind h
        refine pE_gfI rfl rfl hv1 ?_
        refine pE_jump 1 (pc' := 24) (ls' := [some (.ref x0), some (.int x1), some (.int x2), some (.int (((x1.toUInt32 >>> (Int32.toUInt32 x2 &&& Int32.toUInt32 31)).toInt32) &&& 255))]) (st' := [.ref x0, .int v1]) (fun _ => rfl) ?_
        obtain ⟨oq2, hq2, h⟩ := obind h
        cases oq2 with
        | none => cases h
        | some q2 =>
          refine pE_gfS rfl rfl hq2 ?_
          obtain ⟨v3, hv3, h⟩ := obind h
          refine pE_aN rfl hv3 ?_
          refine pE_br (v3 ≤ v1) rfl rfl (fun c10 => ?_) (fun c10 => ?_)
          · rw [if_pos c10] at h
            refine pE_weak [some (.ref x0), some (.int x1), some (.int x2), none] ⟨rfl, ⟨rfl, ⟨rfl, trivial⟩⟩⟩ ?_
            exact f_Tape_take_53 sp d N rec3 hrec3 x0 x1 x2 S _ h
          · rw [if_neg c10] at h
            refine pE_jump 1 (pc' := 32) (ls' := [some (.ref x0), some (.int x1), some (.int x2), some (.int (((x1.toUInt32 >>> (Int32.toUInt32 x2 &&& Int32.toUInt32 31)).toInt32) &&& 255))]) (st' := [.ref x0]) (fun _ => rfl) ?_
            obtain ⟨oq4, hq4, h⟩ := obind h
            cases oq4 with
            | none => cases h
            | some q4 =>
              refine pE_gfS rfl rfl hq4 ?_
              refine pE_jump 1 (pc' := 36) (ls' := [some (.ref x0), some (.int x1), some (.int x2), some (.int (((x1.toUInt32 >>> (Int32.toUInt32 x2 &&& Int32.toUInt32 31)).toInt32) &&& 255))]) (st' := [.ref x0, .ref q4]) (fun _ => rfl) ?_
              obtain ⟨v6, hv6, h⟩ := obind h
              refine pE_gfI rfl rfl hv6 ?_
              refine pE_jump 1 (pc' := 40) (ls' := [some (.ref x0), some (.int x1), some (.int x2), some (.int (((x1.toUInt32 >>> (Int32.toUInt32 x2 &&& Int32.toUInt32 31)).toInt32) &&& 255))]) (st' := [.int (((x1.toUInt32 >>> (Int32.toUInt32 x2 &&& Int32.toUInt32 31)).toInt32) &&& 255), .int v6, .ref q4]) (fun _ => rfl) ?_
              obtain ⟨S7, hS7, h⟩ := obind h
              refine pE_is (Bs := [.ref q4, .int v6, .int (((x1.toUInt32 >>> (Int32.toUInt32 x2 &&& Int32.toUInt32 31)).toInt32) &&& 255)]) (st := []) rfl rfl rfl (by decide) (Nat.le_of_ble_eq_true rfl) (f_BP_setAt sp d N S q4 v6 (((x1.toUInt32 >>> (Int32.toUInt32 x2 &&& Int32.toUInt32 31)).toInt32) &&& 255) _ hS7) ?_
              refine pE_jump 2 (pc' := 45) (ls' := [some (.ref x0), some (.int x1), some (.int x2), some (.int (((x1.toUInt32 >>> (Int32.toUInt32 x2 &&& Int32.toUInt32 31)).toInt32) &&& 255))]) (st' := [.ref x0, .ref x0]) (fun _ => rfl) ?_
              obtain ⟨v8, hv8, h⟩ := obind h
              refine pE_gfI rfl rfl hv8 ?_
              refine pE_jump 2 (pc' := 50) (ls' := [some (.ref x0), some (.int x1), some (.int x2), some (.int (((x1.toUInt32 >>> (Int32.toUInt32 x2 &&& Int32.toUInt32 31)).toInt32) &&& 255))]) (st' := [.int (v8 + 1), .ref x0]) (fun _ => rfl) ?_
              obtain ⟨S9, hS9, h⟩ := obind h
              refine pE_pf rfl rfl rfl hS9 ?_
              refine pE_weak [some (.ref x0), some (.int x1), some (.int x2), none] ⟨rfl, ⟨rfl, ⟨rfl, trivial⟩⟩⟩ ?_
              exact f_Tape_take_53 sp d N rec3 hrec3 x0 x1 x2 S9 _ h
def F_Tape_take (N : Nat) (S : pm_S) (a : Nat) (p0 : Int32) : Option pm_S :=
    if rcv S a 6 = true then
    (F_Tape_take_3 N a p0 N 24 S)
    else none
theorem g_Tape_take {N : Nat} {S : pm_S} {a : Nat} {p0 : Int32} {r : pm_S} (h : F_Tape_take N S a p0 = some r) : rcv S a 6 = true := by
  unfold F_Tape_take at h
  by_cases c : rcv S a 6 = true
  · exact c
  · rw [if_neg c] at h; cases h
set_option maxHeartbeats 4000000 in
set_option maxRecDepth 20000 in
theorem f_Tape_take (sp : pm_I → List Value → pm_S → pm_O → Prop) (d N : Nat) (S : pm_S) (a : Nat) (p0 : Int32) (r : pm_S) (h : F_Tape_take N S a p0 = some r) : pm_rel pG sp (d + 2) mi_Tape_take [.ref a, .int p0] S (none, r) := by
  have hg := g_Tape_take h
  unfold F_Tape_take at h
  rw [if_pos hg] at h
  refine pE_rel (d := d + 1) ?_
  show pm_E pG _ mi_Tape_take 0 [some (.ref a), some (.int p0), none, none] [] S _
  refine pE_jump 2 (pc' := 3) (ls' := [some (.ref a), some (.int p0), some (.int 24), none]) (st' := []) (fun _ => rfl) ?_
  exact f_Tape_take_3 sp d N a p0 N 24 S _ h
def F_BP_valueAt_17 (N : Nat)  (t0 : Int32) (S : pm_S) : Option (Int32 × pm_S) :=
    some (t0, S)
set_option maxHeartbeats 4000000 in
set_option maxRecDepth 20000 in
theorem f_BP_valueAt_17 (sp : pm_I → List Value → pm_S → pm_O → Prop) (d N : Nat)  (t0 : Int32) (S : pm_S) (r : (Int32 × pm_S)) (h : F_BP_valueAt_17 N  t0 S = some r) : pm_E pG (pm_rel pG sp (d + 0)) mi_BP_valueAt 17 [none, none] [.int t0] S (some (.int r.1), r.2) := by
  unfold F_BP_valueAt_17 at h
  cases h
  exact pE_ret rfl rfl rfl
def F_BP_valueAt_16 (N : Nat)   (S : pm_S) : Option (Int32 × pm_S) :=
    F_BP_valueAt_17 N (-1) S
set_option maxHeartbeats 4000000 in
set_option maxRecDepth 20000 in
theorem f_BP_valueAt_16 (sp : pm_I → List Value → pm_S → pm_O → Prop) (d N : Nat)   (S : pm_S) (r : (Int32 × pm_S)) (h : F_BP_valueAt_16 N   S = some r) : pm_E pG (pm_rel pG sp (d + 0)) mi_BP_valueAt 16 [none, none] [] S (some (.int r.1), r.2) := by
  unfold F_BP_valueAt_16 at h
  refine pE_jump 1 (pc' := 17) (ls' := [none, none]) (st' := [.int (-1)]) (fun _ => rfl) ?_
  exact f_BP_valueAt_17 sp d N (-1) S _ h
def F_BP_valueAt (N : Nat) (S : pm_S) (p0 : Nat) (p1 : Int32) : Option (Int32 × pm_S) :=
    if p1 < 0 then
    F_BP_valueAt_16 N S
    else
    ((aNS S p0).bind fun v1 =>
    if v1 ≤ p1 then
    F_BP_valueAt_16 N S
    else
    ((aI [0, 6] S p0 p1).bind fun v2 =>
    F_BP_valueAt_17 N v2 S))
set_option maxHeartbeats 4000000 in
set_option maxRecDepth 20000 in
theorem f_BP_valueAt (sp : pm_I → List Value → pm_S → pm_O → Prop) (d N : Nat) (S : pm_S) (p0 : Nat) (p1 : Int32) (r : (Int32 × pm_S)) (h : F_BP_valueAt N S p0 p1 = some r) : pm_rel pG sp (d + 1) mi_BP_valueAt [.ref p0, .int p1] S (some (.int r.1), r.2) := by
  unfold F_BP_valueAt at h
  refine pE_rel (d := d + 0) ?_
  show pm_E pG _ mi_BP_valueAt 0 [some (.ref p0), some (.int p1)] [] S _
  refine pE_jump 1 (pc' := 1) (ls' := [some (.ref p0), some (.int p1)]) (st' := [.int p1]) (fun _ => rfl) ?_
  refine pE_br (p1 < 0) rfl rfl (fun c4 => ?_) (fun c4 => ?_)
  · rw [if_pos c4] at h
    refine pE_weak [none, none] trivial ?_
    exact f_BP_valueAt_16 sp d N S _ h
  · rw [if_neg c4] at h
    refine pE_jump 2 (pc' := 6) (ls' := [some (.ref p0), some (.int p1)]) (st' := [.ref p0, .int p1]) (fun _ => rfl) ?_
    obtain ⟨v1, hv1, h⟩ := obind h
    refine pE_aN rfl hv1 ?_
    refine pE_br (v1 ≤ p1) rfl rfl (fun c3 => ?_) (fun c3 => ?_)
    · rw [if_pos c3] at h
      refine pE_weak [none, none] trivial ?_
      exact f_BP_valueAt_16 sp d N S _ h
    · rw [if_neg c3] at h
      refine pE_jump 2 (pc' := 12) (ls' := [some (.ref p0), some (.int p1)]) (st' := [.int p1, .ref p0]) (fun _ => rfl) ?_
      obtain ⟨v2, hv2, h⟩ := obind h
      refine pE_aI rfl rfl hv2 ?_
      refine pE_jump 1 (pc' := 17) (ls' := [some (.ref p0), some (.int p1)]) (st' := [.int v2]) (fun _ => rfl) ?_
      refine pE_weak [none, none] trivial ?_
      exact f_BP_valueAt_17 sp d N v2 S _ h
def F_Ledger_at_62 (N : Nat)  (t0 : Int32) (S : pm_S) : Option (Int32 × pm_S) :=
    some (t0, S)
set_option maxHeartbeats 4000000 in
set_option maxRecDepth 20000 in
theorem f_Ledger_at_62 (sp : pm_I → List Value → pm_S → pm_O → Prop) (d N : Nat)  (t0 : Int32) (S : pm_S) (r : (Int32 × pm_S)) (h : F_Ledger_at_62 N  t0 S = some r) : pm_E pG (pm_rel pG sp (d + 0)) mi_Ledger_at 62 [none, none, none, none, none] [.int t0] S (some (.int r.1), r.2) := by
  unfold F_Ledger_at_62 at h
  cases h
  exact pE_ret rfl rfl rfl
def F_Ledger_at_61 (N : Nat)   (S : pm_S) : Option (Int32 × pm_S) :=
    F_Ledger_at_62 N (-1) S
set_option maxHeartbeats 4000000 in
set_option maxRecDepth 20000 in
theorem f_Ledger_at_61 (sp : pm_I → List Value → pm_S → pm_O → Prop) (d N : Nat)   (S : pm_S) (r : (Int32 × pm_S)) (h : F_Ledger_at_61 N   S = some r) : pm_E pG (pm_rel pG sp (d + 0)) mi_Ledger_at 61 [none, none, none, none, none] [] S (some (.int r.1), r.2) := by
  unfold F_Ledger_at_61 at h
  refine pE_jump 1 (pc' := 62) (ls' := [none, none, none, none, none]) (st' := [.int (-1)]) (fun _ => rfl) ?_
  exact f_Ledger_at_62 sp d N (-1) S _ h
def F_Ledger_at_32 (N : Nat)  (x0 : Nat) (x3 : Int32) (t0 : Int32) (S : pm_S) : Option (Int32 × pm_S) :=
    if t0 = 0 then
    F_Ledger_at_61 N S
    else
    (if x3 < 0 then
    F_Ledger_at_61 N S
    else
    ((oR S x0 2 0).bind fun oq1 => match oq1 with
    | none => none
    | some q1 =>
    (aNS S q1).bind fun v2 =>
    if v2 ≤ x3 then
    F_Ledger_at_61 N S
    else
    ((oR S x0 2 0).bind fun oq3 => match oq3 with
    | none => none
    | some q3 =>
    (aI [0, 6] S q3 x3).bind fun v4 =>
    F_Ledger_at_62 N v4 S)))
set_option maxHeartbeats 4000000 in
set_option maxRecDepth 20000 in
theorem f_Ledger_at_32 (sp : pm_I → List Value → pm_S → pm_O → Prop) (d N : Nat)  (x0 : Nat) (x3 : Int32) (t0 : Int32) (S : pm_S) (r : (Int32 × pm_S)) (h : F_Ledger_at_32 N  x0 x3 t0 S = some r) : pm_E pG (pm_rel pG sp (d + 0)) mi_Ledger_at 32 [some (.ref x0), none, none, some (.int x3), none] [.int t0] S (some (.int r.1), r.2) := by
  unfold F_Ledger_at_32 at h
  refine pE_jump 2 (pc' := 36) (ls' := [some (.ref x0), none, none, some (.int x3), some (.int t0)]) (st' := [.int t0]) (fun _ => rfl) ?_
  refine pE_br (t0 = 0) rfl rfl (fun c7 => ?_) (fun c7 => ?_)
  · rw [if_pos c7] at h
    refine pE_weak [none, none, none, none, none] trivial ?_
    exact f_Ledger_at_61 sp d N S _ h
  · rw [if_neg c7] at h
    refine pE_jump 1 (pc' := 40) (ls' := [some (.ref x0), none, none, some (.int x3), some (.int t0)]) (st' := [.int x3]) (fun _ => rfl) ?_
    refine pE_br (x3 < 0) rfl rfl (fun c6 => ?_) (fun c6 => ?_)
    · rw [if_pos c6] at h
      refine pE_weak [none, none, none, none, none] trivial ?_
      exact f_Ledger_at_61 sp d N S _ h
    · rw [if_neg c6] at h
      refine pE_jump 2 (pc' := 45) (ls' := [some (.ref x0), none, none, some (.int x3), some (.int t0)]) (st' := [.ref x0, .int x3]) (fun _ => rfl) ?_
      obtain ⟨oq1, hq1, h⟩ := obind h
      cases oq1 with
      | none => cases h
      | some q1 =>
        refine pE_gfS rfl rfl hq1 ?_
        obtain ⟨v2, hv2, h⟩ := obind h
        refine pE_aN rfl hv2 ?_
        refine pE_br (v2 ≤ x3) rfl rfl (fun c5 => ?_) (fun c5 => ?_)
        · rw [if_pos c5] at h
          refine pE_weak [none, none, none, none, none] trivial ?_
          exact f_Ledger_at_61 sp d N S _ h
        · rw [if_neg c5] at h
          refine pE_jump 1 (pc' := 53) (ls' := [some (.ref x0), none, none, some (.int x3), some (.int t0)]) (st' := [.ref x0]) (fun _ => rfl) ?_
          obtain ⟨oq3, hq3, h⟩ := obind h
          cases oq3 with
          | none => cases h
          | some q3 =>
            refine pE_gfS rfl rfl hq3 ?_
            refine pE_jump 1 (pc' := 57) (ls' := [some (.ref x0), none, none, some (.int x3), some (.int t0)]) (st' := [.int x3, .ref q3]) (fun _ => rfl) ?_
            obtain ⟨v4, hv4, h⟩ := obind h
            refine pE_aI rfl rfl hv4 ?_
            refine pE_jump 1 (pc' := 62) (ls' := [some (.ref x0), none, none, some (.int x3), some (.int t0)]) (st' := [.int v4]) (fun _ => rfl) ?_
            refine pE_weak [none, none, none, none, none] trivial ?_
            exact f_Ledger_at_62 sp d N v4 S _ h
def F_Ledger_at_31 (N : Nat)  (x0 : Nat) (x3 : Int32) (S : pm_S) : Option (Int32 × pm_S) :=
    F_Ledger_at_32 N x0 x3 0 S
set_option maxHeartbeats 4000000 in
set_option maxRecDepth 20000 in
theorem f_Ledger_at_31 (sp : pm_I → List Value → pm_S → pm_O → Prop) (d N : Nat)  (x0 : Nat) (x3 : Int32) (S : pm_S) (r : (Int32 × pm_S)) (h : F_Ledger_at_31 N  x0 x3 S = some r) : pm_E pG (pm_rel pG sp (d + 0)) mi_Ledger_at 31 [some (.ref x0), none, none, some (.int x3), none] [] S (some (.int r.1), r.2) := by
  unfold F_Ledger_at_31 at h
  refine pE_jump 1 (pc' := 32) (ls' := [some (.ref x0), none, none, some (.int x3), none]) (st' := [.int 0]) (fun _ => rfl) ?_
  exact f_Ledger_at_32 sp d N x0 x3 0 S _ h
def F_Ledger_at (N : Nat) (S : pm_S) (a : Nat) (p0 : Int32) (p1 : Int32) : Option (Int32 × pm_S) :=
    if rcv S a 2 = true then
    (if p0 < 0 then
    F_Ledger_at_31 N a ((5 * p0) + p1) S
    else
    ((oI S a 2 2).bind fun v8 =>
    if v8 ≤ p0 then
    F_Ledger_at_31 N a ((5 * p0) + p1) S
    else
    (if p1 < 0 then
    F_Ledger_at_31 N a ((5 * p0) + p1) S
    else
    (if 5 ≤ p1 then
    F_Ledger_at_31 N a ((5 * p0) + p1) S
    else
    F_Ledger_at_32 N a ((5 * p0) + p1) 1 S))))
    else none
theorem g_Ledger_at {N : Nat} {S : pm_S} {a : Nat} {p0 : Int32} {p1 : Int32} {r : (Int32 × pm_S)} (h : F_Ledger_at N S a p0 p1 = some r) : rcv S a 2 = true := by
  unfold F_Ledger_at at h
  by_cases c : rcv S a 2 = true
  · exact c
  · rw [if_neg c] at h; cases h
set_option maxHeartbeats 4000000 in
set_option maxRecDepth 20000 in
theorem f_Ledger_at (sp : pm_I → List Value → pm_S → pm_O → Prop) (d N : Nat) (S : pm_S) (a : Nat) (p0 : Int32) (p1 : Int32) (r : (Int32 × pm_S)) (h : F_Ledger_at N S a p0 p1 = some r) : pm_rel pG sp (d + 1) mi_Ledger_at [.ref a, .int p0, .int p1] S (some (.int r.1), r.2) := by
  have hg := g_Ledger_at h
  unfold F_Ledger_at at h
  rw [if_pos hg] at h
  refine pE_rel (d := d + 0) ?_
  show pm_E pG _ mi_Ledger_at 0 [some (.ref a), some (.int p0), some (.int p1), none, none] [] S _
  refine pE_jump 7 (pc' := 7) (ls' := [some (.ref a), some (.int p0), some (.int p1), some (.int ((5 * p0) + p1)), none]) (st' := [.int p0]) (fun _ => rfl) ?_
  refine pE_br (p0 < 0) rfl rfl (fun c12 => ?_) (fun c12 => ?_)
  · rw [if_pos c12] at h
    refine pE_weak [some (.ref a), none, none, some (.int ((5 * p0) + p1)), none] ⟨rfl, ⟨rfl, trivial⟩⟩ ?_
    exact f_Ledger_at_31 sp d N a ((5 * p0) + p1) S _ h
  · rw [if_neg c12] at h
    refine pE_jump 2 (pc' := 12) (ls' := [some (.ref a), some (.int p0), some (.int p1), some (.int ((5 * p0) + p1)), none]) (st' := [.ref a, .int p0]) (fun _ => rfl) ?_
    obtain ⟨v8, hv8, h⟩ := obind h
    refine pE_gfI rfl rfl hv8 ?_
    refine pE_br (v8 ≤ p0) rfl rfl (fun c11 => ?_) (fun c11 => ?_)
    · rw [if_pos c11] at h
      refine pE_weak [some (.ref a), none, none, some (.int ((5 * p0) + p1)), none] ⟨rfl, ⟨rfl, trivial⟩⟩ ?_
      exact f_Ledger_at_31 sp d N a ((5 * p0) + p1) S _ h
    · rw [if_neg c11] at h
      refine pE_jump 1 (pc' := 19) (ls' := [some (.ref a), some (.int p0), some (.int p1), some (.int ((5 * p0) + p1)), none]) (st' := [.int p1]) (fun _ => rfl) ?_
      refine pE_br (p1 < 0) rfl rfl (fun c10 => ?_) (fun c10 => ?_)
      · rw [if_pos c10] at h
        refine pE_weak [some (.ref a), none, none, some (.int ((5 * p0) + p1)), none] ⟨rfl, ⟨rfl, trivial⟩⟩ ?_
        exact f_Ledger_at_31 sp d N a ((5 * p0) + p1) S _ h
      · rw [if_neg c10] at h
        refine pE_jump 2 (pc' := 24) (ls' := [some (.ref a), some (.int p0), some (.int p1), some (.int ((5 * p0) + p1)), none]) (st' := [.int 5, .int p1]) (fun _ => rfl) ?_
        refine pE_br (5 ≤ p1) rfl rfl (fun c9 => ?_) (fun c9 => ?_)
        · rw [if_pos c9] at h
          refine pE_weak [some (.ref a), none, none, some (.int ((5 * p0) + p1)), none] ⟨rfl, ⟨rfl, trivial⟩⟩ ?_
          exact f_Ledger_at_31 sp d N a ((5 * p0) + p1) S _ h
        · rw [if_neg c9] at h
          refine pE_jump 2 (pc' := 32) (ls' := [some (.ref a), some (.int p0), some (.int p1), some (.int ((5 * p0) + p1)), none]) (st' := [.int 1]) (fun _ => rfl) ?_
          refine pE_weak [some (.ref a), none, none, some (.int ((5 * p0) + p1)), none] ⟨rfl, ⟨rfl, trivial⟩⟩ ?_
          exact f_Ledger_at_32 sp d N a ((5 * p0) + p1) 1 S _ h
def F_Layout_copy (N : Nat) (S : pm_S) (a : Nat) (p0 : Nat) : Option pm_S :=
    if rcv S a 1 = true then
    ((oR S p0 1 0).bind fun oq1 => match oq1 with
    | none => none
    | some q1 =>
    (oR S a 1 0).bind fun oq3 => match oq3 with
    | none => none
    | some q3 =>
    (cP S q1 0 q3 0 56).bind fun S4 =>
    (oR S4 p0 1 1).bind fun oq5 => match oq5 with
    | none => none
    | some q5 =>
    (oR S4 a 1 1).bind fun oq7 => match oq7 with
    | none => none
    | some q7 =>
    (cP S4 q5 0 q7 0 56).bind fun S8 =>
    (oR S8 p0 1 2).bind fun oq9 => match oq9 with
    | none => none
    | some q9 =>
    (oR S8 a 1 2).bind fun oq11 => match oq11 with
    | none => none
    | some q11 =>
    (cP S8 q9 0 q11 0 56).bind fun S12 =>
    (oR S12 p0 1 3).bind fun oq13 => match oq13 with
    | none => none
    | some q13 =>
    (oR S12 a 1 3).bind fun oq15 => match oq15 with
    | none => none
    | some q15 =>
    (cP S12 q13 0 q15 0 10).bind fun S16 =>
    some S16)
    else none
theorem g_Layout_copy {N : Nat} {S : pm_S} {a : Nat} {p0 : Nat} {r : pm_S} (h : F_Layout_copy N S a p0 = some r) : rcv S a 1 = true := by
  unfold F_Layout_copy at h
  by_cases c : rcv S a 1 = true
  · exact c
  · rw [if_neg c] at h; cases h
set_option maxHeartbeats 4000000 in
set_option maxRecDepth 20000 in
theorem f_Layout_copy (sp : pm_I → List Value → pm_S → pm_O → Prop) (d N : Nat) (S : pm_S) (a : Nat) (p0 : Nat) (r : pm_S) (h : F_Layout_copy N S a p0 = some r) : pm_rel pG sp (d + 1) mi_Layout_copy [.ref a, .ref p0] S (none, r) := by
  have hg := g_Layout_copy h
  unfold F_Layout_copy at h
  rw [if_pos hg] at h
  refine pE_rel (d := d + 0) ?_
  show pm_E pG _ mi_Layout_copy 0 [some (.ref a), some (.ref p0)] [] S _
  refine pE_jump 1 (pc' := 1) (ls' := [some (.ref a), some (.ref p0)]) (st' := [.ref p0]) (fun _ => rfl) ?_
  obtain ⟨oq1, hq1, h⟩ := obind h
  cases oq1 with
  | none => cases h
  | some q1 =>
    refine pE_gfS rfl rfl hq1 ?_
    refine pE_jump 2 (pc' := 6) (ls' := [some (.ref a), some (.ref p0)]) (st' := [.ref a, .int 0, .ref q1]) (fun _ => rfl) ?_
    obtain ⟨oq3, hq3, h⟩ := obind h
    cases oq3 with
    | none => cases h
    | some q3 =>
      refine pE_gfS rfl rfl hq3 ?_
      refine pE_jump 2 (pc' := 12) (ls' := [some (.ref a), some (.ref p0)]) (st' := [.int 56, .int 0, .ref q3, .int 0, .ref q1]) (fun _ => rfl) ?_
      obtain ⟨S4, hS4, h⟩ := obind h
      refine pE_cP rfl rfl (by decide) hS4 ?_
      refine pE_jump 1 (pc' := 16) (ls' := [some (.ref a), some (.ref p0)]) (st' := [.ref p0]) (fun _ => rfl) ?_
      obtain ⟨oq5, hq5, h⟩ := obind h
      cases oq5 with
      | none => cases h
      | some q5 =>
        refine pE_gfS rfl rfl hq5 ?_
        refine pE_jump 2 (pc' := 21) (ls' := [some (.ref a), some (.ref p0)]) (st' := [.ref a, .int 0, .ref q5]) (fun _ => rfl) ?_
        obtain ⟨oq7, hq7, h⟩ := obind h
        cases oq7 with
        | none => cases h
        | some q7 =>
          refine pE_gfS rfl rfl hq7 ?_
          refine pE_jump 2 (pc' := 27) (ls' := [some (.ref a), some (.ref p0)]) (st' := [.int 56, .int 0, .ref q7, .int 0, .ref q5]) (fun _ => rfl) ?_
          obtain ⟨S8, hS8, h⟩ := obind h
          refine pE_cP rfl rfl (by decide) hS8 ?_
          refine pE_jump 1 (pc' := 31) (ls' := [some (.ref a), some (.ref p0)]) (st' := [.ref p0]) (fun _ => rfl) ?_
          obtain ⟨oq9, hq9, h⟩ := obind h
          cases oq9 with
          | none => cases h
          | some q9 =>
            refine pE_gfS rfl rfl hq9 ?_
            refine pE_jump 2 (pc' := 36) (ls' := [some (.ref a), some (.ref p0)]) (st' := [.ref a, .int 0, .ref q9]) (fun _ => rfl) ?_
            obtain ⟨oq11, hq11, h⟩ := obind h
            cases oq11 with
            | none => cases h
            | some q11 =>
              refine pE_gfS rfl rfl hq11 ?_
              refine pE_jump 2 (pc' := 42) (ls' := [some (.ref a), some (.ref p0)]) (st' := [.int 56, .int 0, .ref q11, .int 0, .ref q9]) (fun _ => rfl) ?_
              obtain ⟨S12, hS12, h⟩ := obind h
              refine pE_cP rfl rfl (by decide) hS12 ?_
              refine pE_jump 1 (pc' := 46) (ls' := [some (.ref a), some (.ref p0)]) (st' := [.ref p0]) (fun _ => rfl) ?_
              obtain ⟨oq13, hq13, h⟩ := obind h
              cases oq13 with
              | none => cases h
              | some q13 =>
                refine pE_gfS rfl rfl hq13 ?_
                refine pE_jump 2 (pc' := 51) (ls' := [some (.ref a), some (.ref p0)]) (st' := [.ref a, .int 0, .ref q13]) (fun _ => rfl) ?_
                obtain ⟨oq15, hq15, h⟩ := obind h
                cases oq15 with
                | none => cases h
                | some q15 =>
                  refine pE_gfS rfl rfl hq15 ?_
                  refine pE_jump 2 (pc' := 57) (ls' := [some (.ref a), some (.ref p0)]) (st' := [.int 10, .int 0, .ref q15, .int 0, .ref q13]) (fun _ => rfl) ?_
                  obtain ⟨S16, hS16, h⟩ := obind h
                  refine pE_cP rfl rfl (by decide) hS16 ?_
                  cases h
                  exact pE_ret rfl rfl rfl
def F_BP_planAt_21 (N : Nat)   (S : pm_S) : Option (Option Nat × pm_S) :=
    some (none, S)
set_option maxHeartbeats 4000000 in
set_option maxRecDepth 20000 in
theorem f_BP_planAt_21 (sp : pm_I → List Value → pm_S → pm_O → Prop) (d N : Nat)   (S : pm_S) (r : (Option Nat × pm_S)) (h : F_BP_planAt_21 N   S = some r) : pm_E pG (pm_rel pG sp (d + 0)) mi_BP_planAt 21 [none, none] [] S (some (va_rf r.1), r.2) := by
  unfold F_BP_planAt_21 at h
  refine pE_jump 1 (pc' := 22) (ls' := [none, none]) (st' := [.null]) (fun _ => rfl) ?_
  cases h
  exact pE_ret rfl rfl rfl
def F_BP_planAt (N : Nat) (S : pm_S) (a : Nat) (p0 : Int32) : Option (Option Nat × pm_S) :=
    if rcv S a 10 = true then
    (if p0 < 0 then
    F_BP_planAt_21 N S
    else
    ((oI S a 10 6).bind fun v1 =>
    if v1 ≤ p0 then
    F_BP_planAt_21 N S
    else
    ((oR S a 10 2).bind fun oq2 => match oq2 with
    | none => none
    | some q2 =>
    (aNS S q2).bind fun v3 =>
    if p0 < v3 then
    ((oR S a 10 2).bind fun oq4 => match oq4 with
    | none => none
    | some q4 =>
    (aQ S q4 p0).bind fun oq5 => match oq5 with
    | none => some (none, S)
    | some q5 =>
    some (some q5, S))
    else
    F_BP_planAt_21 N S)))
    else none
theorem g_BP_planAt {N : Nat} {S : pm_S} {a : Nat} {p0 : Int32} {r : (Option Nat × pm_S)} (h : F_BP_planAt N S a p0 = some r) : rcv S a 10 = true := by
  unfold F_BP_planAt at h
  by_cases c : rcv S a 10 = true
  · exact c
  · rw [if_neg c] at h; cases h
set_option maxHeartbeats 4000000 in
set_option maxRecDepth 20000 in
theorem f_BP_planAt (sp : pm_I → List Value → pm_S → pm_O → Prop) (d N : Nat) (S : pm_S) (a : Nat) (p0 : Int32) (r : (Option Nat × pm_S)) (h : F_BP_planAt N S a p0 = some r) : pm_rel pG sp (d + 1) mi_BP_planAt [.ref a, .int p0] S (some (va_rf r.1), r.2) := by
  have hg := g_BP_planAt h
  unfold F_BP_planAt at h
  rw [if_pos hg] at h
  refine pE_rel (d := d + 0) ?_
  show pm_E pG _ mi_BP_planAt 0 [some (.ref a), some (.int p0)] [] S _
  refine pE_jump 1 (pc' := 1) (ls' := [some (.ref a), some (.int p0)]) (st' := [.int p0]) (fun _ => rfl) ?_
  refine pE_br (p0 < 0) rfl rfl (fun c8 => ?_) (fun c8 => ?_)
  · rw [if_pos c8] at h
    refine pE_weak [none, none] trivial ?_
    exact f_BP_planAt_21 sp d N S _ h
  · rw [if_neg c8] at h
    refine pE_jump 2 (pc' := 6) (ls' := [some (.ref a), some (.int p0)]) (st' := [.ref a, .int p0]) (fun _ => rfl) ?_
    obtain ⟨v1, hv1, h⟩ := obind h
    refine pE_gfI rfl rfl hv1 ?_
    refine pE_br (v1 ≤ p0) rfl rfl (fun c7 => ?_) (fun c7 => ?_)
    · rw [if_pos c7] at h
      refine pE_weak [none, none] trivial ?_
      exact f_BP_planAt_21 sp d N S _ h
    · rw [if_neg c7] at h
      refine pE_jump 2 (pc' := 14) (ls' := [some (.ref a), some (.int p0)]) (st' := [.ref a, .int p0]) (fun _ => rfl) ?_
      obtain ⟨oq2, hq2, h⟩ := obind h
      cases oq2 with
      | none => cases h
      | some q2 =>
        refine pE_gfS rfl rfl hq2 ?_
        obtain ⟨v3, hv3, h⟩ := obind h
        refine pE_aN rfl hv3 ?_
        refine pE_br (p0 < v3) rfl rfl (fun c6 => ?_) (fun c6 => ?_)
        · rw [if_pos c6] at h
          refine pE_jump 1 (pc' := 24) (ls' := [some (.ref a), some (.int p0)]) (st' := [.ref a]) (fun _ => rfl) ?_
          obtain ⟨oq4, hq4, h⟩ := obind h
          cases oq4 with
          | none => cases h
          | some q4 =>
            refine pE_gfS rfl rfl hq4 ?_
            refine pE_jump 1 (pc' := 28) (ls' := [some (.ref a), some (.int p0)]) (st' := [.int p0, .ref q4]) (fun _ => rfl) ?_
            obtain ⟨oq5, hq5, h⟩ := obind h
            cases oq5 with
            | none =>
              refine pE_aQN rfl hq5 ?_
              cases h
              exact pE_ret rfl rfl rfl
            | some q5 =>
              refine pE_aQS rfl hq5 ?_
              cases h
              exact pE_ret rfl rfl rfl
        · rw [if_neg c6] at h
          refine pE_weak [none, none] trivial ?_
          exact f_BP_planAt_21 sp d N S _ h
def F_Plan_canHaveTrouble_117 (N : Nat)  (t0 : Int32) (S : pm_S) : Option (Int32 × pm_S) :=
    if t0 = 0 ∨ t0 = 1 then some (t0, S) else none
set_option maxHeartbeats 4000000 in
set_option maxRecDepth 20000 in
theorem f_Plan_canHaveTrouble_117 (sp : pm_I → List Value → pm_S → pm_O → Prop) (d N : Nat)  (t0 : Int32) (S : pm_S) (r : (Int32 × pm_S)) (h : F_Plan_canHaveTrouble_117 N  t0 S = some r) : pm_E pG (pm_rel pG sp (d + 3)) mi_Plan_canHaveTrouble 117 [none, none, none, none, none, none, none, none] [.int t0] S (some (.int r.1), r.2) := by
  unfold F_Plan_canHaveTrouble_117 at h
  by_cases c13 : t0 = 0 ∨ t0 = 1
  · rw [if_pos c13] at h
    cases h
    exact pE_ret rfl (if_pos c13) rfl
  · rw [if_neg c13] at h
    cases h
def F_Plan_canHaveTrouble_116 (N : Nat)   (S : pm_S) : Option (Int32 × pm_S) :=
    F_Plan_canHaveTrouble_117 N 0 S
set_option maxHeartbeats 4000000 in
set_option maxRecDepth 20000 in
theorem f_Plan_canHaveTrouble_116 (sp : pm_I → List Value → pm_S → pm_O → Prop) (d N : Nat)   (S : pm_S) (r : (Int32 × pm_S)) (h : F_Plan_canHaveTrouble_116 N   S = some r) : pm_E pG (pm_rel pG sp (d + 3)) mi_Plan_canHaveTrouble 116 [none, none, none, none, none, none, none, none] [] S (some (.int r.1), r.2) := by
  unfold F_Plan_canHaveTrouble_116 at h
  refine pE_jump 1 (pc' := 117) (ls' := [none, none, none, none, none, none, none, none]) (st' := [.int 0]) (fun _ => rfl) ?_
  exact f_Plan_canHaveTrouble_117 sp d N 0 S _ h
def F_Plan_canHaveTrouble_61 (N : Nat)  (x0 : Nat) (x1 : Int32) (x2 : Int32) (x6 : Int32) (t0 : Int32) (S : pm_S) : Option (Int32 × pm_S) :=
    if x1 = 0 then
    if x6 = 0 ∨ x6 = 1 then some (x6, S) else none
    else
    (if x1 = 1 then
    if t0 = 0 ∨ t0 = 1 then some (t0, S) else none
    else
    (if x1 = 2 then
    (if x6 = 0 then
    F_Plan_canHaveTrouble_116 N S
    else
    (if t0 = 0 then
    F_Plan_canHaveTrouble_116 N S
    else
    F_Plan_canHaveTrouble_117 N 1 S))
    else
    (if x1 = 3 then
    ((oR S x0 4 6).bind fun oq9 => match oq9 with
    | none => none
    | some q9 =>
    (F_Ledger_has N S q9 x2).bind fun (v11, S10) =>
    if v11 = 0 ∨ v11 = 1 then some (v11, S10) else none)
    else
    some (0, S))))
set_option maxHeartbeats 4000000 in
set_option maxRecDepth 20000 in
theorem f_Plan_canHaveTrouble_61 (sp : pm_I → List Value → pm_S → pm_O → Prop) (d N : Nat)  (x0 : Nat) (x1 : Int32) (x2 : Int32) (x6 : Int32) (t0 : Int32) (S : pm_S) (r : (Int32 × pm_S)) (h : F_Plan_canHaveTrouble_61 N  x0 x1 x2 x6 t0 S = some r) : pm_E pG (pm_rel pG sp (d + 3)) mi_Plan_canHaveTrouble 61 [some (.ref x0), some (.int x1), some (.int x2), none, none, none, some (.int x6), none] [.int t0] S (some (.int r.1), r.2) := by
  unfold F_Plan_canHaveTrouble_61 at h
  refine pE_jump 2 (pc' := 64) (ls' := [some (.ref x0), some (.int x1), some (.int x2), none, none, none, some (.int x6), some (.int t0)]) (st' := [.int x1]) (fun _ => rfl) ?_
  by_cases c5 : x1 = 0
  · rw [if_pos c5] at h
    refine pE_nx (pc' := 96) (ls' := [some (.ref x0), some (.int x1), some (.int x2), none, none, none, some (.int x6), some (.int t0)]) (st' := []) (S' := S) rfl (by rw [c5]; rfl) ?_
    refine pE_jump 1 (pc' := 98) (ls' := [some (.ref x0), some (.int x1), some (.int x2), none, none, none, some (.int x6), some (.int t0)]) (st' := [.int x6]) (fun _ => rfl) ?_
    by_cases c17 : x6 = 0 ∨ x6 = 1
    · rw [if_pos c17] at h
      cases h
      exact pE_ret rfl (if_pos c17) rfl
    · rw [if_neg c17] at h
      cases h
  · rw [if_neg c5] at h
    by_cases c6 : x1 = 1
    · rw [if_pos c6] at h
      refine pE_nx (pc' := 99) (ls' := [some (.ref x0), some (.int x1), some (.int x2), none, none, none, some (.int x6), some (.int t0)]) (st' := []) (S' := S) rfl (by rw [c6]; rfl) ?_
      refine pE_jump 1 (pc' := 101) (ls' := [some (.ref x0), some (.int x1), some (.int x2), none, none, none, some (.int x6), some (.int t0)]) (st' := [.int t0]) (fun _ => rfl) ?_
      by_cases c16 : t0 = 0 ∨ t0 = 1
      · rw [if_pos c16] at h
        cases h
        exact pE_ret rfl (if_pos c16) rfl
      · rw [if_neg c16] at h
        cases h
    · rw [if_neg c6] at h
      by_cases c7 : x1 = 2
      · rw [if_pos c7] at h
        refine pE_nx (pc' := 102) (ls' := [some (.ref x0), some (.int x1), some (.int x2), none, none, none, some (.int x6), some (.int t0)]) (st' := []) (S' := S) rfl (by rw [c7]; rfl) ?_
        refine pE_jump 1 (pc' := 104) (ls' := [some (.ref x0), some (.int x1), some (.int x2), none, none, none, some (.int x6), some (.int t0)]) (st' := [.int x6]) (fun _ => rfl) ?_
        refine pE_br (x6 = 0) rfl rfl (fun c15 => ?_) (fun c15 => ?_)
        · rw [if_pos c15] at h
          refine pE_weak [none, none, none, none, none, none, none, none] trivial ?_
          exact f_Plan_canHaveTrouble_116 sp d N S _ h
        · rw [if_neg c15] at h
          refine pE_jump 1 (pc' := 109) (ls' := [some (.ref x0), some (.int x1), some (.int x2), none, none, none, some (.int x6), some (.int t0)]) (st' := [.int t0]) (fun _ => rfl) ?_
          refine pE_br (t0 = 0) rfl rfl (fun c14 => ?_) (fun c14 => ?_)
          · rw [if_pos c14] at h
            refine pE_weak [none, none, none, none, none, none, none, none] trivial ?_
            exact f_Plan_canHaveTrouble_116 sp d N S _ h
          · rw [if_neg c14] at h
            refine pE_jump 2 (pc' := 117) (ls' := [some (.ref x0), some (.int x1), some (.int x2), none, none, none, some (.int x6), some (.int t0)]) (st' := [.int 1]) (fun _ => rfl) ?_
            refine pE_weak [none, none, none, none, none, none, none, none] trivial ?_
            exact f_Plan_canHaveTrouble_117 sp d N 1 S _ h
      · rw [if_neg c7] at h
        by_cases c8 : x1 = 3
        · rw [if_pos c8] at h
          refine pE_nx (pc' := 118) (ls' := [some (.ref x0), some (.int x1), some (.int x2), none, none, none, some (.int x6), some (.int t0)]) (st' := []) (S' := S) rfl (by rw [c8]; rfl) ?_
          refine pE_jump 1 (pc' := 119) (ls' := [some (.ref x0), some (.int x1), some (.int x2), none, none, none, some (.int x6), some (.int t0)]) (st' := [.ref x0]) (fun _ => rfl) ?_
          obtain ⟨oq9, hq9, h⟩ := obind h
          cases oq9 with
          | none => cases h
          | some q9 =>
            refine pE_gfS rfl rfl hq9 ?_
            refine pE_jump 1 (pc' := 123) (ls' := [some (.ref x0), some (.int x1), some (.int x2), none, none, none, some (.int x6), some (.int t0)]) (st' := [.int x2, .ref q9]) (fun _ => rfl) ?_
            obtain ⟨⟨v11, S10⟩, hv11, h⟩ := obind h
            dsimp only at h
            refine pE_iv (Bs := [.int x2]) (st := []) 1 rfl (Or.inl ⟨rfl, rfl⟩) rfl rfl (by decide) (Nat.le_of_ble_eq_true rfl) (g_Ledger_has hv11) (f_Ledger_has sp (d + 2) N S q9 x2 _ hv11) ?_
            by_cases c12 : v11 = 0 ∨ v11 = 1
            · rw [if_pos c12] at h
              cases h
              exact pE_ret rfl (if_pos c12) rfl
            · rw [if_neg c12] at h
              cases h
        · rw [if_neg c8] at h
          refine pE_swD rfl (pm_swd3 c5 c6 c7 c8) ?_
          refine pE_jump 1 (pc' := 128) (ls' := [some (.ref x0), some (.int x1), some (.int x2), none, none, none, some (.int x6), some (.int t0)]) (st' := [.int 0]) (fun _ => rfl) ?_
          cases h
          exact pE_ret rfl rfl rfl
def F_Plan_canHaveTrouble_60 (N : Nat)  (x0 : Nat) (x1 : Int32) (x2 : Int32) (x6 : Int32) (S : pm_S) : Option (Int32 × pm_S) :=
    F_Plan_canHaveTrouble_61 N x0 x1 x2 x6 0 S
set_option maxHeartbeats 4000000 in
set_option maxRecDepth 20000 in
theorem f_Plan_canHaveTrouble_60 (sp : pm_I → List Value → pm_S → pm_O → Prop) (d N : Nat)  (x0 : Nat) (x1 : Int32) (x2 : Int32) (x6 : Int32) (S : pm_S) (r : (Int32 × pm_S)) (h : F_Plan_canHaveTrouble_60 N  x0 x1 x2 x6 S = some r) : pm_E pG (pm_rel pG sp (d + 3)) mi_Plan_canHaveTrouble 60 [some (.ref x0), some (.int x1), some (.int x2), none, none, none, some (.int x6), none] [] S (some (.int r.1), r.2) := by
  unfold F_Plan_canHaveTrouble_60 at h
  refine pE_jump 1 (pc' := 61) (ls' := [some (.ref x0), some (.int x1), some (.int x2), none, none, none, some (.int x6), none]) (st' := [.int 0]) (fun _ => rfl) ?_
  exact f_Plan_canHaveTrouble_61 sp d N x0 x1 x2 x6 0 S _ h
def F_Plan_canHaveTrouble_30 (N : Nat)  (x0 : Nat) (x1 : Int32) (x2 : Int32) (x3 : Int32) (x5 : Int32) (t0 : Int32) (S : pm_S) : Option (Int32 × pm_S) :=
    (F_Plan_hasPair N S x0 x2 x3).bind fun (v4, S3) =>
    if v4 = 0 then
    F_Plan_canHaveTrouble_60 N x0 x1 x2 t0 S3
    else
    (if x5 < 0 then
    F_Plan_canHaveTrouble_60 N x0 x1 x2 t0 S3
    else
    ((F_Plan_lengthOf N S3 x0 x2).bind fun (v19, S18) =>
    if v19 < x5 then
    F_Plan_canHaveTrouble_60 N x0 x1 x2 t0 S18
    else
    F_Plan_canHaveTrouble_61 N x0 x1 x2 t0 1 S18))
set_option maxHeartbeats 4000000 in
set_option maxRecDepth 20000 in
theorem f_Plan_canHaveTrouble_30 (sp : pm_I → List Value → pm_S → pm_O → Prop) (d N : Nat)  (x0 : Nat) (x1 : Int32) (x2 : Int32) (x3 : Int32) (x5 : Int32) (t0 : Int32) (S : pm_S) (r : (Int32 × pm_S)) (h : F_Plan_canHaveTrouble_30 N  x0 x1 x2 x3 x5 t0 S = some r) : pm_E pG (pm_rel pG sp (d + 3)) mi_Plan_canHaveTrouble 30 [some (.ref x0), some (.int x1), some (.int x2), some (.int x3), none, some (.int x5), none, none] [.int t0] S (some (.int r.1), r.2) := by
  unfold F_Plan_canHaveTrouble_30 at h
  refine pE_jump 4 (pc' := 35) (ls' := [some (.ref x0), some (.int x1), some (.int x2), some (.int x3), none, some (.int x5), some (.int t0), none]) (st' := [.int x3, .int x2, .ref x0]) (fun _ => rfl) ?_
  obtain ⟨⟨v4, S3⟩, hv4, h⟩ := obind h
  dsimp only at h
  refine pE_iv (Bs := [.int x2, .int x3]) (st := []) 1 rfl (Or.inl ⟨rfl, rfl⟩) rfl rfl (by decide) (Nat.le_of_ble_eq_true rfl) (g_Plan_hasPair hv4) (f_Plan_hasPair sp d N S x0 x2 x3 _ hv4) ?_
  refine pE_br (v4 = 0) rfl rfl (fun c22 => ?_) (fun c22 => ?_)
  · rw [if_pos c22] at h
    refine pE_weak [some (.ref x0), some (.int x1), some (.int x2), none, none, none, some (.int t0), none] ⟨rfl, ⟨rfl, ⟨rfl, ⟨rfl, trivial⟩⟩⟩⟩ ?_
    exact f_Plan_canHaveTrouble_60 sp d N x0 x1 x2 t0 S3 _ h
  · rw [if_neg c22] at h
    refine pE_jump 1 (pc' := 43) (ls' := [some (.ref x0), some (.int x1), some (.int x2), some (.int x3), none, some (.int x5), some (.int t0), none]) (st' := [.int x5]) (fun _ => rfl) ?_
    refine pE_br (x5 < 0) rfl rfl (fun c21 => ?_) (fun c21 => ?_)
    · rw [if_pos c21] at h
      refine pE_weak [some (.ref x0), some (.int x1), some (.int x2), none, none, none, some (.int t0), none] ⟨rfl, ⟨rfl, ⟨rfl, ⟨rfl, trivial⟩⟩⟩⟩ ?_
      exact f_Plan_canHaveTrouble_60 sp d N x0 x1 x2 t0 S3 _ h
    · rw [if_neg c21] at h
      refine pE_jump 3 (pc' := 50) (ls' := [some (.ref x0), some (.int x1), some (.int x2), some (.int x3), none, some (.int x5), some (.int t0), none]) (st' := [.int x2, .ref x0, .int x5]) (fun _ => rfl) ?_
      obtain ⟨⟨v19, S18⟩, hv19, h⟩ := obind h
      dsimp only at h
      refine pE_iv (Bs := [.int x2]) (st := [.int x5]) 1 rfl (Or.inl ⟨rfl, rfl⟩) rfl rfl (by decide) (Nat.le_of_ble_eq_true rfl) (g_Plan_lengthOf hv19) (f_Plan_lengthOf sp (d + 1) N S3 x0 x2 _ hv19) ?_
      refine pE_br (v19 < x5) rfl rfl (fun c20 => ?_) (fun c20 => ?_)
      · rw [if_pos c20] at h
        refine pE_weak [some (.ref x0), some (.int x1), some (.int x2), none, none, none, some (.int t0), none] ⟨rfl, ⟨rfl, ⟨rfl, ⟨rfl, trivial⟩⟩⟩⟩ ?_
        exact f_Plan_canHaveTrouble_60 sp d N x0 x1 x2 t0 S18 _ h
      · rw [if_neg c20] at h
        refine pE_jump 2 (pc' := 61) (ls' := [some (.ref x0), some (.int x1), some (.int x2), some (.int x3), none, some (.int x5), some (.int t0), none]) (st' := [.int 1]) (fun _ => rfl) ?_
        refine pE_weak [some (.ref x0), some (.int x1), some (.int x2), none, none, none, some (.int t0), none] ⟨rfl, ⟨rfl, ⟨rfl, ⟨rfl, trivial⟩⟩⟩⟩ ?_
        exact f_Plan_canHaveTrouble_61 sp d N x0 x1 x2 t0 1 S18 _ h
def F_Plan_canHaveTrouble_29 (N : Nat)  (x0 : Nat) (x1 : Int32) (x2 : Int32) (x3 : Int32) (x5 : Int32) (S : pm_S) : Option (Int32 × pm_S) :=
    F_Plan_canHaveTrouble_30 N x0 x1 x2 x3 x5 0 S
set_option maxHeartbeats 4000000 in
set_option maxRecDepth 20000 in
theorem f_Plan_canHaveTrouble_29 (sp : pm_I → List Value → pm_S → pm_O → Prop) (d N : Nat)  (x0 : Nat) (x1 : Int32) (x2 : Int32) (x3 : Int32) (x5 : Int32) (S : pm_S) (r : (Int32 × pm_S)) (h : F_Plan_canHaveTrouble_29 N  x0 x1 x2 x3 x5 S = some r) : pm_E pG (pm_rel pG sp (d + 3)) mi_Plan_canHaveTrouble 29 [some (.ref x0), some (.int x1), some (.int x2), some (.int x3), none, some (.int x5), none, none] [] S (some (.int r.1), r.2) := by
  unfold F_Plan_canHaveTrouble_29 at h
  refine pE_jump 1 (pc' := 30) (ls' := [some (.ref x0), some (.int x1), some (.int x2), some (.int x3), none, some (.int x5), none, none]) (st' := [.int 0]) (fun _ => rfl) ?_
  exact f_Plan_canHaveTrouble_30 sp d N x0 x1 x2 x3 x5 0 S _ h
def F_Plan_canHaveTrouble (N : Nat) (S : pm_S) (a : Nat) (p0 : Int32) (p1 : Int32) (p2 : Int32) (p3 : Int32) (p4 : Int32) : Option (Int32 × pm_S) :=
    if rcv S a 4 = true then
    ((F_Plan_hasPair N S a p1 p2).bind fun (v2, S1) =>
    if v2 = 0 then
    F_Plan_canHaveTrouble_29 N a p0 p1 p2 p4 S1
    else
    ((F_Plan_hasPair N S1 a p1 p3).bind fun (v24, S23) =>
    if v24 = 0 then
    F_Plan_canHaveTrouble_29 N a p0 p1 p2 p4 S23
    else
    (if p2 = p3 then
    F_Plan_canHaveTrouble_29 N a p0 p1 p2 p4 S23
    else
    F_Plan_canHaveTrouble_30 N a p0 p1 p2 p4 1 S23)))
    else none
theorem g_Plan_canHaveTrouble {N : Nat} {S : pm_S} {a : Nat} {p0 : Int32} {p1 : Int32} {p2 : Int32} {p3 : Int32} {p4 : Int32} {r : (Int32 × pm_S)} (h : F_Plan_canHaveTrouble N S a p0 p1 p2 p3 p4 = some r) : rcv S a 4 = true := by
  unfold F_Plan_canHaveTrouble at h
  by_cases c : rcv S a 4 = true
  · exact c
  · rw [if_neg c] at h; cases h
set_option maxHeartbeats 4000000 in
set_option maxRecDepth 20000 in
theorem f_Plan_canHaveTrouble (sp : pm_I → List Value → pm_S → pm_O → Prop) (d N : Nat) (S : pm_S) (a : Nat) (p0 : Int32) (p1 : Int32) (p2 : Int32) (p3 : Int32) (p4 : Int32) (r : (Int32 × pm_S)) (h : F_Plan_canHaveTrouble N S a p0 p1 p2 p3 p4 = some r) : pm_rel pG sp (d + 4) mi_Plan_canHaveTrouble [.ref a, .int p0, .int p1, .int p2, .int p3, .int p4] S (some (.int r.1), r.2) := by
  have hg := g_Plan_canHaveTrouble h
  unfold F_Plan_canHaveTrouble at h
  rw [if_pos hg] at h
  refine pE_rel (d := d + 3) ?_
  show pm_E pG _ mi_Plan_canHaveTrouble 0 [some (.ref a), some (.int p0), some (.int p1), some (.int p2), some (.int p3), some (.int p4), none, none] [] S _
  refine pE_jump 3 (pc' := 3) (ls' := [some (.ref a), some (.int p0), some (.int p1), some (.int p2), some (.int p3), some (.int p4), none, none]) (st' := [.int p2, .int p1, .ref a]) (fun _ => rfl) ?_
  obtain ⟨⟨v2, S1⟩, hv2, h⟩ := obind h
  dsimp only at h
  refine pE_iv (Bs := [.int p1, .int p2]) (st := []) 1 rfl (Or.inl ⟨rfl, rfl⟩) rfl rfl (by decide) (Nat.le_of_ble_eq_true rfl) (g_Plan_hasPair hv2) (f_Plan_hasPair sp d N S a p1 p2 _ hv2) ?_
  refine pE_br (v2 = 0) rfl rfl (fun c27 => ?_) (fun c27 => ?_)
  · rw [if_pos c27] at h
    refine pE_weak [some (.ref a), some (.int p0), some (.int p1), some (.int p2), none, some (.int p4), none, none] ⟨rfl, ⟨rfl, ⟨rfl, ⟨rfl, ⟨rfl, trivial⟩⟩⟩⟩⟩ ?_
    exact f_Plan_canHaveTrouble_29 sp d N a p0 p1 p2 p4 S1 _ h
  · rw [if_neg c27] at h
    refine pE_jump 3 (pc' := 13) (ls' := [some (.ref a), some (.int p0), some (.int p1), some (.int p2), some (.int p3), some (.int p4), none, none]) (st' := [.int p3, .int p1, .ref a]) (fun _ => rfl) ?_
    obtain ⟨⟨v24, S23⟩, hv24, h⟩ := obind h
    dsimp only at h
    refine pE_iv (Bs := [.int p1, .int p3]) (st := []) 1 rfl (Or.inl ⟨rfl, rfl⟩) rfl rfl (by decide) (Nat.le_of_ble_eq_true rfl) (g_Plan_hasPair hv24) (f_Plan_hasPair sp d N S1 a p1 p3 _ hv24) ?_
    refine pE_br (v24 = 0) rfl rfl (fun c26 => ?_) (fun c26 => ?_)
    · rw [if_pos c26] at h
      refine pE_weak [some (.ref a), some (.int p0), some (.int p1), some (.int p2), none, some (.int p4), none, none] ⟨rfl, ⟨rfl, ⟨rfl, ⟨rfl, ⟨rfl, trivial⟩⟩⟩⟩⟩ ?_
      exact f_Plan_canHaveTrouble_29 sp d N a p0 p1 p2 p4 S23 _ h
    · rw [if_neg c26] at h
      refine pE_jump 2 (pc' := 22) (ls' := [some (.ref a), some (.int p0), some (.int p1), some (.int p2), some (.int p3), some (.int p4), none, none]) (st' := [.int p3, .int p2]) (fun _ => rfl) ?_
      refine pE_br (p2 = p3) rfl rfl (fun c25 => ?_) (fun c25 => ?_)
      · rw [if_pos c25] at h
        refine pE_weak [some (.ref a), some (.int p0), some (.int p1), some (.int p2), none, some (.int p4), none, none] ⟨rfl, ⟨rfl, ⟨rfl, ⟨rfl, ⟨rfl, trivial⟩⟩⟩⟩⟩ ?_
        exact f_Plan_canHaveTrouble_29 sp d N a p0 p1 p2 p4 S23 _ h
      · rw [if_neg c25] at h
        refine pE_jump 2 (pc' := 30) (ls' := [some (.ref a), some (.int p0), some (.int p1), some (.int p2), some (.int p3), some (.int p4), none, none]) (st' := [.int 1]) (fun _ => rfl) ?_
        refine pE_weak [some (.ref a), some (.int p0), some (.int p1), some (.int p2), none, some (.int p4), none, none] ⟨rfl, ⟨rfl, ⟨rfl, ⟨rfl, ⟨rfl, trivial⟩⟩⟩⟩⟩ ?_
        exact f_Plan_canHaveTrouble_30 sp d N a p0 p1 p2 p4 1 S23 _ h
def F_Wires_pieceAt_49 (N : Nat)  (x3 : Int32) (S : pm_S) : Option (Int32 × pm_S) :=
    some (x3, S)
set_option maxHeartbeats 4000000 in
set_option maxRecDepth 20000 in
theorem f_Wires_pieceAt_49 (sp : pm_I → List Value → pm_S → pm_O → Prop) (d N : Nat)  (x3 : Int32) (S : pm_S) (r : (Int32 × pm_S)) (h : F_Wires_pieceAt_49 N  x3 S = some r) : pm_E pG (pm_rel pG sp (d + 1)) mi_Wires_pieceAt 49 [none, none, none, some (.int x3), none] [] S (some (.int r.1), r.2) := by
  unfold F_Wires_pieceAt_49 at h
  refine pE_jump 1 (pc' := 50) (ls' := [none, none, none, some (.int x3), none]) (st' := [.int x3]) (fun _ => rfl) ?_
  cases h
  exact pE_ret rfl rfl rfl
def F_Wires_pieceAt_43 (N : Nat) (rec5 : Int32 → Int32 → pm_S → Option (Int32 × pm_S)) (x0 : Nat) (x1 : Int32) (x2 : Int32) (x3 : Int32) (x4 : Int32) (S : pm_S) : Option (Int32 × pm_S) :=
    rec5 x3 (x4 + 1) S
set_option maxHeartbeats 4000000 in
set_option maxRecDepth 20000 in
theorem f_Wires_pieceAt_43 (sp : pm_I → List Value → pm_S → pm_O → Prop) (d N : Nat) (rec5 : Int32 → Int32 → pm_S → Option (Int32 × pm_S)) (hrec5 : ∀ (y1 : Int32) (y2 : Int32) (U : pm_S) (r : (Int32 × pm_S)), rec5 y1 y2 U = some r → pm_E pG (pm_rel pG sp (d + 1)) mi_Wires_pieceAt 5 [some (.ref x0), some (.int x1), some (.int x2), some (.int y1), some (.int y2)] [] U (some (.int r.1), r.2)) (x0 : Nat) (x1 : Int32) (x2 : Int32) (x3 : Int32) (x4 : Int32) (S : pm_S) (r : (Int32 × pm_S)) (h : F_Wires_pieceAt_43 N rec5 x0 x1 x2 x3 x4 S = some r) : pm_E pG (pm_rel pG sp (d + 1)) mi_Wires_pieceAt 43 [some (.ref x0), some (.int x1), some (.int x2), some (.int x3), some (.int x4)] [] S (some (.int r.1), r.2) := by
  unfold F_Wires_pieceAt_43 at h
  refine pE_jump 2 (pc' := 5) (ls' := [some (.ref x0), some (.int x1), some (.int x2), some (.int x3), some (.int (x4 + 1))]) (st' := []) (fun _ => rfl) ?_
  exact hrec5 x3 (x4 + 1) S _ h
def B_Wires_pieceAt_5 (N : Nat)  (rec5 : Int32 → Int32 → pm_S → Option (Int32 × pm_S)) (x0 : Nat) (x1 : Int32) (x2 : Int32) (x3 : Int32) (x4 : Int32) (S : pm_S) : Option (Int32 × pm_S) :=
    (oI S x0 9 11).bind fun v1 =>
    if v1 ≤ x4 then
    F_Wires_pieceAt_49 N x3 S
    else
    ((oR S x0 9 4).bind fun oq2 => match oq2 with
    | none => none
    | some q2 =>
    (F_BP_valueAt N S q2 x4).bind fun (v4, S3) =>
    if v4 = x1 then
    ((oR S3 x0 9 5).bind fun oq5 => match oq5 with
    | none => none
    | some q5 =>
    (F_BP_valueAt N S3 q5 x4).bind fun (v7, S6) =>
    if x2 < v7 then
    F_Wires_pieceAt_43 N rec5 x0 x1 x2 x3 x4 S6
    else
    F_Wires_pieceAt_43 N rec5 x0 x1 x2 (x3 + 1) x4 S6)
    else
    F_Wires_pieceAt_43 N rec5 x0 x1 x2 x3 x4 S3)
def F_Wires_pieceAt_5 (N : Nat)  (x0 : Nat) (x1 : Int32) (x2 : Int32) : Nat → Int32 → Int32 → pm_S → Option (Int32 × pm_S)
  | 0 => fun _ _ _ => none
  | n + 1 => fun x3 x4 S => B_Wires_pieceAt_5 N  (F_Wires_pieceAt_5 N  x0 x1 x2 n) x0 x1 x2 x3 x4 S
set_option maxHeartbeats 4000000 in
set_option maxRecDepth 20000 in
theorem f_Wires_pieceAt_5 (sp : pm_I → List Value → pm_S → pm_O → Prop) (d N : Nat)  (x0 : Nat) (x1 : Int32) (x2 : Int32) : ∀ (n : Nat) (x3 : Int32) (x4 : Int32) (S : pm_S) (r : (Int32 × pm_S)), F_Wires_pieceAt_5 N  x0 x1 x2 n x3 x4 S = some r → pm_E pG (pm_rel pG sp (d + 1)) mi_Wires_pieceAt 5 [some (.ref x0), some (.int x1), some (.int x2), some (.int x3), some (.int x4)] [] S (some (.int r.1), r.2) := by
  intro n
  induction n with
  | zero =>
    intro x3 x4 S r h
    cases h
  | succ n ih =>
    intro x3 x4 S r h
    replace h : B_Wires_pieceAt_5 N  (F_Wires_pieceAt_5 N  x0 x1 x2 n) x0 x1 x2 x3 x4 S = some r := h
    have hrec5 := ih
    generalize F_Wires_pieceAt_5 N  x0 x1 x2 n = rec5 at h hrec5
    unfold B_Wires_pieceAt_5 at h
    refine pE_jump 2 (pc' := 8) (ls' := [some (.ref x0), some (.int x1), some (.int x2), some (.int x3), some (.int x4)]) (st' := [.ref x0, .int x4]) (fun _ => rfl) ?_
    obtain ⟨v1, hv1, h⟩ := obind h
    refine pE_gfI rfl rfl hv1 ?_
    refine pE_br (v1 ≤ x4) rfl rfl (fun c10 => ?_) (fun c10 => ?_)
    · rw [if_pos c10] at h
      refine pE_weak [none, none, none, some (.int x3), none] ⟨rfl, trivial⟩ ?_
      exact f_Wires_pieceAt_49 sp d N x3 S _ h
    · rw [if_neg c10] at h
      refine pE_jump 1 (pc' := 15) (ls' := [some (.ref x0), some (.int x1), some (.int x2), some (.int x3), some (.int x4)]) (st' := [.ref x0]) (fun _ => rfl) ?_
      obtain ⟨oq2, hq2, h⟩ := obind h
      cases oq2 with
      | none => cases h
      | some q2 =>
        refine pE_gfS rfl rfl hq2 ?_
        refine pE_jump 1 (pc' := 20) (ls' := [some (.ref x0), some (.int x1), some (.int x2), some (.int x3), some (.int x4)]) (st' := [.int x4, .ref q2]) (fun _ => rfl) ?_
        obtain ⟨⟨v4, S3⟩, hv4, h⟩ := obind h
        dsimp only at h
        refine pE_is (Bs := [.ref q2, .int x4]) (st := []) rfl rfl rfl (by decide) (Nat.le_of_ble_eq_true rfl) (f_BP_valueAt sp d N S q2 x4 _ hv4) ?_
        refine pE_jump 1 (pc' := 24) (ls' := [some (.ref x0), some (.int x1), some (.int x2), some (.int x3), some (.int x4)]) (st' := [.int x1, .int v4]) (fun _ => rfl) ?_
        refine pE_br (¬ v4 = x1) rfl rfl (fun c9 => ?_) (fun c9 => ?_)
        · rw [if_neg c9] at h
          exact f_Wires_pieceAt_43 sp d N rec5 hrec5 x0 x1 x2 x3 x4 S3 _ h
        · have c9 := Decidable.not_not.mp c9
          rw [if_pos c9] at h
          refine pE_jump 1 (pc' := 28) (ls' := [some (.ref x0), some (.int x1), some (.int x2), some (.int x3), some (.int x4)]) (st' := [.ref x0]) (fun _ => rfl) ?_
          obtain ⟨oq5, hq5, h⟩ := obind h
          cases oq5 with
          | none => cases h
          | some q5 =>
            refine pE_gfS rfl rfl hq5 ?_
            refine pE_jump 1 (pc' := 33) (ls' := [some (.ref x0), some (.int x1), some (.int x2), some (.int x3), some (.int x4)]) (st' := [.int x4, .ref q5]) (fun _ => rfl) ?_
            obtain ⟨⟨v7, S6⟩, hv7, h⟩ := obind h
            dsimp only at h
            refine pE_is (Bs := [.ref q5, .int x4]) (st := []) rfl rfl rfl (by decide) (Nat.le_of_ble_eq_true rfl) (f_BP_valueAt sp d N S3 q5 x4 _ hv7) ?_
            refine pE_jump 1 (pc' := 37) (ls' := [some (.ref x0), some (.int x1), some (.int x2), some (.int x3), some (.int x4)]) (st' := [.int x2, .int v7]) (fun _ => rfl) ?_
            refine pE_br (x2 < v7) rfl rfl (fun c8 => ?_) (fun c8 => ?_)
            · rw [if_pos c8] at h
              exact f_Wires_pieceAt_43 sp d N rec5 hrec5 x0 x1 x2 x3 x4 S6 _ h
            · rw [if_neg c8] at h
              refine pE_jump 1 (pc' := 43) (ls' := [some (.ref x0), some (.int x1), some (.int x2), some (.int (x3 + 1)), some (.int x4)]) (st' := []) (fun _ => rfl) ?_
              exact f_Wires_pieceAt_43 sp d N rec5 hrec5 x0 x1 x2 (x3 + 1) x4 S6 _ h
def F_Wires_pieceAt (N : Nat) (S : pm_S) (a : Nat) (p0 : Int32) (p1 : Int32) : Option (Int32 × pm_S) :=
    if rcv S a 9 = true then
    (F_Wires_pieceAt_5 N a p0 p1 N 0 0 S)
    else none
theorem g_Wires_pieceAt {N : Nat} {S : pm_S} {a : Nat} {p0 : Int32} {p1 : Int32} {r : (Int32 × pm_S)} (h : F_Wires_pieceAt N S a p0 p1 = some r) : rcv S a 9 = true := by
  unfold F_Wires_pieceAt at h
  by_cases c : rcv S a 9 = true
  · exact c
  · rw [if_neg c] at h; cases h
set_option maxHeartbeats 4000000 in
set_option maxRecDepth 20000 in
theorem f_Wires_pieceAt (sp : pm_I → List Value → pm_S → pm_O → Prop) (d N : Nat) (S : pm_S) (a : Nat) (p0 : Int32) (p1 : Int32) (r : (Int32 × pm_S)) (h : F_Wires_pieceAt N S a p0 p1 = some r) : pm_rel pG sp (d + 2) mi_Wires_pieceAt [.ref a, .int p0, .int p1] S (some (.int r.1), r.2) := by
  have hg := g_Wires_pieceAt h
  unfold F_Wires_pieceAt at h
  rw [if_pos hg] at h
  refine pE_rel (d := d + 1) ?_
  show pm_E pG _ mi_Wires_pieceAt 0 [some (.ref a), some (.int p0), some (.int p1), none, none] [] S _
  refine pE_jump 4 (pc' := 5) (ls' := [some (.ref a), some (.int p0), some (.int p1), some (.int 0), some (.int 0)]) (st' := []) (fun _ => rfl) ?_
  exact f_Wires_pieceAt_5 sp d N a p0 p1 N 0 0 S _ h
def F_Int_bitCount (N : Nat) (S : pm_S) (p0 : Int32) : Option (Int32 × pm_S) :=
    some ((((((((p0 - (((p0.toUInt32 >>> (Int32.toUInt32 1 &&& Int32.toUInt32 31)).toInt32) &&& 1431655765)) &&& 858993459) + ((((p0 - (((p0.toUInt32 >>> (Int32.toUInt32 1 &&& Int32.toUInt32 31)).toInt32) &&& 1431655765)).toUInt32 >>> (Int32.toUInt32 2 &&& Int32.toUInt32 31)).toInt32) &&& 858993459)) + (((((p0 - (((p0.toUInt32 >>> (Int32.toUInt32 1 &&& Int32.toUInt32 31)).toInt32) &&& 1431655765)) &&& 858993459) + ((((p0 - (((p0.toUInt32 >>> (Int32.toUInt32 1 &&& Int32.toUInt32 31)).toInt32) &&& 1431655765)).toUInt32 >>> (Int32.toUInt32 2 &&& Int32.toUInt32 31)).toInt32) &&& 858993459)).toUInt32 >>> (Int32.toUInt32 4 &&& Int32.toUInt32 31)).toInt32)) &&& 252645135) + (((((((p0 - (((p0.toUInt32 >>> (Int32.toUInt32 1 &&& Int32.toUInt32 31)).toInt32) &&& 1431655765)) &&& 858993459) + ((((p0 - (((p0.toUInt32 >>> (Int32.toUInt32 1 &&& Int32.toUInt32 31)).toInt32) &&& 1431655765)).toUInt32 >>> (Int32.toUInt32 2 &&& Int32.toUInt32 31)).toInt32) &&& 858993459)) + (((((p0 - (((p0.toUInt32 >>> (Int32.toUInt32 1 &&& Int32.toUInt32 31)).toInt32) &&& 1431655765)) &&& 858993459) + ((((p0 - (((p0.toUInt32 >>> (Int32.toUInt32 1 &&& Int32.toUInt32 31)).toInt32) &&& 1431655765)).toUInt32 >>> (Int32.toUInt32 2 &&& Int32.toUInt32 31)).toInt32) &&& 858993459)).toUInt32 >>> (Int32.toUInt32 4 &&& Int32.toUInt32 31)).toInt32)) &&& 252645135).toUInt32 >>> (Int32.toUInt32 8 &&& Int32.toUInt32 31)).toInt32)) + ((((((((p0 - (((p0.toUInt32 >>> (Int32.toUInt32 1 &&& Int32.toUInt32 31)).toInt32) &&& 1431655765)) &&& 858993459) + ((((p0 - (((p0.toUInt32 >>> (Int32.toUInt32 1 &&& Int32.toUInt32 31)).toInt32) &&& 1431655765)).toUInt32 >>> (Int32.toUInt32 2 &&& Int32.toUInt32 31)).toInt32) &&& 858993459)) + (((((p0 - (((p0.toUInt32 >>> (Int32.toUInt32 1 &&& Int32.toUInt32 31)).toInt32) &&& 1431655765)) &&& 858993459) + ((((p0 - (((p0.toUInt32 >>> (Int32.toUInt32 1 &&& Int32.toUInt32 31)).toInt32) &&& 1431655765)).toUInt32 >>> (Int32.toUInt32 2 &&& Int32.toUInt32 31)).toInt32) &&& 858993459)).toUInt32 >>> (Int32.toUInt32 4 &&& Int32.toUInt32 31)).toInt32)) &&& 252645135) + (((((((p0 - (((p0.toUInt32 >>> (Int32.toUInt32 1 &&& Int32.toUInt32 31)).toInt32) &&& 1431655765)) &&& 858993459) + ((((p0 - (((p0.toUInt32 >>> (Int32.toUInt32 1 &&& Int32.toUInt32 31)).toInt32) &&& 1431655765)).toUInt32 >>> (Int32.toUInt32 2 &&& Int32.toUInt32 31)).toInt32) &&& 858993459)) + (((((p0 - (((p0.toUInt32 >>> (Int32.toUInt32 1 &&& Int32.toUInt32 31)).toInt32) &&& 1431655765)) &&& 858993459) + ((((p0 - (((p0.toUInt32 >>> (Int32.toUInt32 1 &&& Int32.toUInt32 31)).toInt32) &&& 1431655765)).toUInt32 >>> (Int32.toUInt32 2 &&& Int32.toUInt32 31)).toInt32) &&& 858993459)).toUInt32 >>> (Int32.toUInt32 4 &&& Int32.toUInt32 31)).toInt32)) &&& 252645135).toUInt32 >>> (Int32.toUInt32 8 &&& Int32.toUInt32 31)).toInt32)).toUInt32 >>> (Int32.toUInt32 16 &&& Int32.toUInt32 31)).toInt32)) &&& 63, S)
set_option maxHeartbeats 4000000 in
set_option maxRecDepth 20000 in
theorem f_Int_bitCount (sp : pm_I → List Value → pm_S → pm_O → Prop) (d N : Nat) (S : pm_S) (p0 : Int32) (r : (Int32 × pm_S)) (h : F_Int_bitCount N S p0 = some r) : pm_rel pG sp (d + 1) mi_Int_bitCount [.int p0] S (some (.int r.1), r.2) := by
  unfold F_Int_bitCount at h
  refine pE_rel (d := d + 0) ?_
  show pm_E pG _ mi_Int_bitCount 0 [some (.int p0)] [] S _
  refine pE_jump 41 (pc' := 52) (ls' := [some (.int (((((((p0 - (((p0.toUInt32 >>> (Int32.toUInt32 1 &&& Int32.toUInt32 31)).toInt32) &&& 1431655765)) &&& 858993459) + ((((p0 - (((p0.toUInt32 >>> (Int32.toUInt32 1 &&& Int32.toUInt32 31)).toInt32) &&& 1431655765)).toUInt32 >>> (Int32.toUInt32 2 &&& Int32.toUInt32 31)).toInt32) &&& 858993459)) + (((((p0 - (((p0.toUInt32 >>> (Int32.toUInt32 1 &&& Int32.toUInt32 31)).toInt32) &&& 1431655765)) &&& 858993459) + ((((p0 - (((p0.toUInt32 >>> (Int32.toUInt32 1 &&& Int32.toUInt32 31)).toInt32) &&& 1431655765)).toUInt32 >>> (Int32.toUInt32 2 &&& Int32.toUInt32 31)).toInt32) &&& 858993459)).toUInt32 >>> (Int32.toUInt32 4 &&& Int32.toUInt32 31)).toInt32)) &&& 252645135) + (((((((p0 - (((p0.toUInt32 >>> (Int32.toUInt32 1 &&& Int32.toUInt32 31)).toInt32) &&& 1431655765)) &&& 858993459) + ((((p0 - (((p0.toUInt32 >>> (Int32.toUInt32 1 &&& Int32.toUInt32 31)).toInt32) &&& 1431655765)).toUInt32 >>> (Int32.toUInt32 2 &&& Int32.toUInt32 31)).toInt32) &&& 858993459)) + (((((p0 - (((p0.toUInt32 >>> (Int32.toUInt32 1 &&& Int32.toUInt32 31)).toInt32) &&& 1431655765)) &&& 858993459) + ((((p0 - (((p0.toUInt32 >>> (Int32.toUInt32 1 &&& Int32.toUInt32 31)).toInt32) &&& 1431655765)).toUInt32 >>> (Int32.toUInt32 2 &&& Int32.toUInt32 31)).toInt32) &&& 858993459)).toUInt32 >>> (Int32.toUInt32 4 &&& Int32.toUInt32 31)).toInt32)) &&& 252645135).toUInt32 >>> (Int32.toUInt32 8 &&& Int32.toUInt32 31)).toInt32)) + ((((((((p0 - (((p0.toUInt32 >>> (Int32.toUInt32 1 &&& Int32.toUInt32 31)).toInt32) &&& 1431655765)) &&& 858993459) + ((((p0 - (((p0.toUInt32 >>> (Int32.toUInt32 1 &&& Int32.toUInt32 31)).toInt32) &&& 1431655765)).toUInt32 >>> (Int32.toUInt32 2 &&& Int32.toUInt32 31)).toInt32) &&& 858993459)) + (((((p0 - (((p0.toUInt32 >>> (Int32.toUInt32 1 &&& Int32.toUInt32 31)).toInt32) &&& 1431655765)) &&& 858993459) + ((((p0 - (((p0.toUInt32 >>> (Int32.toUInt32 1 &&& Int32.toUInt32 31)).toInt32) &&& 1431655765)).toUInt32 >>> (Int32.toUInt32 2 &&& Int32.toUInt32 31)).toInt32) &&& 858993459)).toUInt32 >>> (Int32.toUInt32 4 &&& Int32.toUInt32 31)).toInt32)) &&& 252645135) + (((((((p0 - (((p0.toUInt32 >>> (Int32.toUInt32 1 &&& Int32.toUInt32 31)).toInt32) &&& 1431655765)) &&& 858993459) + ((((p0 - (((p0.toUInt32 >>> (Int32.toUInt32 1 &&& Int32.toUInt32 31)).toInt32) &&& 1431655765)).toUInt32 >>> (Int32.toUInt32 2 &&& Int32.toUInt32 31)).toInt32) &&& 858993459)) + (((((p0 - (((p0.toUInt32 >>> (Int32.toUInt32 1 &&& Int32.toUInt32 31)).toInt32) &&& 1431655765)) &&& 858993459) + ((((p0 - (((p0.toUInt32 >>> (Int32.toUInt32 1 &&& Int32.toUInt32 31)).toInt32) &&& 1431655765)).toUInt32 >>> (Int32.toUInt32 2 &&& Int32.toUInt32 31)).toInt32) &&& 858993459)).toUInt32 >>> (Int32.toUInt32 4 &&& Int32.toUInt32 31)).toInt32)) &&& 252645135).toUInt32 >>> (Int32.toUInt32 8 &&& Int32.toUInt32 31)).toInt32)).toUInt32 >>> (Int32.toUInt32 16 &&& Int32.toUInt32 31)).toInt32)))]) (st' := [.int ((((((((p0 - (((p0.toUInt32 >>> (Int32.toUInt32 1 &&& Int32.toUInt32 31)).toInt32) &&& 1431655765)) &&& 858993459) + ((((p0 - (((p0.toUInt32 >>> (Int32.toUInt32 1 &&& Int32.toUInt32 31)).toInt32) &&& 1431655765)).toUInt32 >>> (Int32.toUInt32 2 &&& Int32.toUInt32 31)).toInt32) &&& 858993459)) + (((((p0 - (((p0.toUInt32 >>> (Int32.toUInt32 1 &&& Int32.toUInt32 31)).toInt32) &&& 1431655765)) &&& 858993459) + ((((p0 - (((p0.toUInt32 >>> (Int32.toUInt32 1 &&& Int32.toUInt32 31)).toInt32) &&& 1431655765)).toUInt32 >>> (Int32.toUInt32 2 &&& Int32.toUInt32 31)).toInt32) &&& 858993459)).toUInt32 >>> (Int32.toUInt32 4 &&& Int32.toUInt32 31)).toInt32)) &&& 252645135) + (((((((p0 - (((p0.toUInt32 >>> (Int32.toUInt32 1 &&& Int32.toUInt32 31)).toInt32) &&& 1431655765)) &&& 858993459) + ((((p0 - (((p0.toUInt32 >>> (Int32.toUInt32 1 &&& Int32.toUInt32 31)).toInt32) &&& 1431655765)).toUInt32 >>> (Int32.toUInt32 2 &&& Int32.toUInt32 31)).toInt32) &&& 858993459)) + (((((p0 - (((p0.toUInt32 >>> (Int32.toUInt32 1 &&& Int32.toUInt32 31)).toInt32) &&& 1431655765)) &&& 858993459) + ((((p0 - (((p0.toUInt32 >>> (Int32.toUInt32 1 &&& Int32.toUInt32 31)).toInt32) &&& 1431655765)).toUInt32 >>> (Int32.toUInt32 2 &&& Int32.toUInt32 31)).toInt32) &&& 858993459)).toUInt32 >>> (Int32.toUInt32 4 &&& Int32.toUInt32 31)).toInt32)) &&& 252645135).toUInt32 >>> (Int32.toUInt32 8 &&& Int32.toUInt32 31)).toInt32)) + ((((((((p0 - (((p0.toUInt32 >>> (Int32.toUInt32 1 &&& Int32.toUInt32 31)).toInt32) &&& 1431655765)) &&& 858993459) + ((((p0 - (((p0.toUInt32 >>> (Int32.toUInt32 1 &&& Int32.toUInt32 31)).toInt32) &&& 1431655765)).toUInt32 >>> (Int32.toUInt32 2 &&& Int32.toUInt32 31)).toInt32) &&& 858993459)) + (((((p0 - (((p0.toUInt32 >>> (Int32.toUInt32 1 &&& Int32.toUInt32 31)).toInt32) &&& 1431655765)) &&& 858993459) + ((((p0 - (((p0.toUInt32 >>> (Int32.toUInt32 1 &&& Int32.toUInt32 31)).toInt32) &&& 1431655765)).toUInt32 >>> (Int32.toUInt32 2 &&& Int32.toUInt32 31)).toInt32) &&& 858993459)).toUInt32 >>> (Int32.toUInt32 4 &&& Int32.toUInt32 31)).toInt32)) &&& 252645135) + (((((((p0 - (((p0.toUInt32 >>> (Int32.toUInt32 1 &&& Int32.toUInt32 31)).toInt32) &&& 1431655765)) &&& 858993459) + ((((p0 - (((p0.toUInt32 >>> (Int32.toUInt32 1 &&& Int32.toUInt32 31)).toInt32) &&& 1431655765)).toUInt32 >>> (Int32.toUInt32 2 &&& Int32.toUInt32 31)).toInt32) &&& 858993459)) + (((((p0 - (((p0.toUInt32 >>> (Int32.toUInt32 1 &&& Int32.toUInt32 31)).toInt32) &&& 1431655765)) &&& 858993459) + ((((p0 - (((p0.toUInt32 >>> (Int32.toUInt32 1 &&& Int32.toUInt32 31)).toInt32) &&& 1431655765)).toUInt32 >>> (Int32.toUInt32 2 &&& Int32.toUInt32 31)).toInt32) &&& 858993459)).toUInt32 >>> (Int32.toUInt32 4 &&& Int32.toUInt32 31)).toInt32)) &&& 252645135).toUInt32 >>> (Int32.toUInt32 8 &&& Int32.toUInt32 31)).toInt32)).toUInt32 >>> (Int32.toUInt32 16 &&& Int32.toUInt32 31)).toInt32)) &&& 63)]) (fun _ => rfl) ?_
  cases h
  exact pE_ret rfl rfl rfl
def F_Sheet_comesBefore_46 (N : Nat)  (t0 : Int32) (S : pm_S) : Option (Int32 × pm_S) :=
    if t0 = 0 ∨ t0 = 1 then some (t0, S) else none
set_option maxHeartbeats 4000000 in
set_option maxRecDepth 20000 in
theorem f_Sheet_comesBefore_46 (sp : pm_I → List Value → pm_S → pm_O → Prop) (d N : Nat)  (t0 : Int32) (S : pm_S) (r : (Int32 × pm_S)) (h : F_Sheet_comesBefore_46 N  t0 S = some r) : pm_E pG (pm_rel pG sp (d + 1)) mi_Sheet_comesBefore 46 [none, none, none, none, none] [.int t0] S (some (.int r.1), r.2) := by
  unfold F_Sheet_comesBefore_46 at h
  by_cases c5 : t0 = 0 ∨ t0 = 1
  · rw [if_pos c5] at h
    cases h
    exact pE_ret rfl (if_pos c5) rfl
  · rw [if_neg c5] at h
    cases h
def F_Sheet_comesBefore_23 (N : Nat)  (t0 : Int32) (S : pm_S) : Option (Int32 × pm_S) :=
    if t0 = 0 ∨ t0 = 1 then some (t0, S) else none
set_option maxHeartbeats 4000000 in
set_option maxRecDepth 20000 in
theorem f_Sheet_comesBefore_23 (sp : pm_I → List Value → pm_S → pm_O → Prop) (d N : Nat)  (t0 : Int32) (S : pm_S) (r : (Int32 × pm_S)) (h : F_Sheet_comesBefore_23 N  t0 S = some r) : pm_E pG (pm_rel pG sp (d + 1)) mi_Sheet_comesBefore 23 [none, none, none, none, none] [.int t0] S (some (.int r.1), r.2) := by
  unfold F_Sheet_comesBefore_23 at h
  by_cases c7 : t0 = 0 ∨ t0 = 1
  · rw [if_pos c7] at h
    cases h
    exact pE_ret rfl (if_pos c7) rfl
  · rw [if_neg c7] at h
    cases h
def F_Sheet_comesBefore (N : Nat) (S : pm_S) (p0 : Int32) (p1 : Int32) : Option (Int32 × pm_S) :=
    (F_Int_bitCount N S p0).bind fun (v2, S1) =>
    (F_Int_bitCount N S1 p1).bind fun (v4, S3) =>
    if (v2 - v4) = 0 then
    (if (p0 &&& ((p0 ^^^ p1) &&& (-(p0 ^^^ p1)))) = 0 then
    F_Sheet_comesBefore_46 N 0 S3
    else
    F_Sheet_comesBefore_46 N 1 S3)
    else
    (if 0 ≤ (v2 - v4) then
    F_Sheet_comesBefore_23 N 0 S3
    else
    F_Sheet_comesBefore_23 N 1 S3)
set_option maxHeartbeats 4000000 in
set_option maxRecDepth 20000 in
theorem f_Sheet_comesBefore (sp : pm_I → List Value → pm_S → pm_O → Prop) (d N : Nat) (S : pm_S) (p0 : Int32) (p1 : Int32) (r : (Int32 × pm_S)) (h : F_Sheet_comesBefore N S p0 p1 = some r) : pm_rel pG sp (d + 2) mi_Sheet_comesBefore [.int p0, .int p1] S (some (.int r.1), r.2) := by
  unfold F_Sheet_comesBefore at h
  refine pE_rel (d := d + 1) ?_
  show pm_E pG _ mi_Sheet_comesBefore 0 [some (.int p0), some (.int p1), none, none, none] [] S _
  refine pE_jump 1 (pc' := 1) (ls' := [some (.int p0), some (.int p1), none, none, none]) (st' := [.int p0]) (fun _ => rfl) ?_
  obtain ⟨⟨v2, S1⟩, hv2, h⟩ := obind h
  dsimp only at h
  refine pE_is (Bs := [.int p0]) (st := []) rfl rfl rfl (by decide) (Nat.le_of_ble_eq_true rfl) (f_Int_bitCount sp d N S p0 _ hv2) ?_
  refine pE_jump 1 (pc' := 5) (ls' := [some (.int p0), some (.int p1), none, none, none]) (st' := [.int p1, .int v2]) (fun _ => rfl) ?_
  obtain ⟨⟨v4, S3⟩, hv4, h⟩ := obind h
  dsimp only at h
  refine pE_is (Bs := [.int p1]) (st := [.int v2]) rfl rfl rfl (by decide) (Nat.le_of_ble_eq_true rfl) (f_Int_bitCount sp d N S1 p1 _ hv4) ?_
  refine pE_jump 3 (pc' := 11) (ls' := [some (.int p0), some (.int p1), some (.int (v2 - v4)), none, none]) (st' := [.int (v2 - v4)]) (fun _ => rfl) ?_
  refine pE_br ((v2 - v4) = 0) rfl rfl (fun c9 => ?_) (fun c9 => ?_)
  · rw [if_pos c9] at h
    refine pE_jump 12 (pc' := 38) (ls' := [some (.int p0), some (.int p1), some (.int (v2 - v4)), some (.int (p0 ^^^ p1)), some (.int ((p0 ^^^ p1) &&& (-(p0 ^^^ p1))))]) (st' := [.int (p0 &&& ((p0 ^^^ p1) &&& (-(p0 ^^^ p1))))]) (fun _ => rfl) ?_
    refine pE_br ((p0 &&& ((p0 ^^^ p1) &&& (-(p0 ^^^ p1)))) = 0) rfl rfl (fun c6 => ?_) (fun c6 => ?_)
    · rw [if_pos c6] at h
      refine pE_jump 1 (pc' := 46) (ls' := [some (.int p0), some (.int p1), some (.int (v2 - v4)), some (.int (p0 ^^^ p1)), some (.int ((p0 ^^^ p1) &&& (-(p0 ^^^ p1))))]) (st' := [.int 0]) (fun _ => rfl) ?_
      refine pE_weak [none, none, none, none, none] trivial ?_
      exact f_Sheet_comesBefore_46 sp d N 0 S3 _ h
    · rw [if_neg c6] at h
      refine pE_jump 2 (pc' := 46) (ls' := [some (.int p0), some (.int p1), some (.int (v2 - v4)), some (.int (p0 ^^^ p1)), some (.int ((p0 ^^^ p1) &&& (-(p0 ^^^ p1))))]) (st' := [.int 1]) (fun _ => rfl) ?_
      refine pE_weak [none, none, none, none, none] trivial ?_
      exact f_Sheet_comesBefore_46 sp d N 1 S3 _ h
  · rw [if_neg c9] at h
    refine pE_jump 1 (pc' := 15) (ls' := [some (.int p0), some (.int p1), some (.int (v2 - v4)), none, none]) (st' := [.int (v2 - v4)]) (fun _ => rfl) ?_
    refine pE_br (0 ≤ (v2 - v4)) rfl rfl (fun c8 => ?_) (fun c8 => ?_)
    · rw [if_pos c8] at h
      refine pE_jump 1 (pc' := 23) (ls' := [some (.int p0), some (.int p1), some (.int (v2 - v4)), none, none]) (st' := [.int 0]) (fun _ => rfl) ?_
      refine pE_weak [none, none, none, none, none] trivial ?_
      exact f_Sheet_comesBefore_23 sp d N 0 S3 _ h
    · rw [if_neg c8] at h
      refine pE_jump 2 (pc' := 23) (ls' := [some (.int p0), some (.int p1), some (.int (v2 - v4)), none, none]) (st' := [.int 1]) (fun _ => rfl) ?_
      refine pE_weak [none, none, none, none, none] trivial ?_
      exact f_Sheet_comesBefore_23 sp d N 1 S3 _ h
def F_BP_count_137 (N : Nat)  (t0 : Int32) (S : pm_S) : Option (Int32 × pm_S) :=
    some (t0, S)
set_option maxHeartbeats 4000000 in
set_option maxRecDepth 20000 in
theorem f_BP_count_137 (sp : pm_I → List Value → pm_S → pm_O → Prop) (d N : Nat)  (t0 : Int32) (S : pm_S) (r : (Int32 × pm_S)) (h : F_BP_count_137 N  t0 S = some r) : pm_E pG (pm_rel pG sp (d + 1)) mi_BP_count 137 [none, none, none] [.int t0] S (some (.int r.1), r.2) := by
  unfold F_BP_count_137 at h
  cases h
  exact pE_ret rfl rfl rfl
def F_BP_count_121 (N : Nat)  (t0 : Int32) (S : pm_S) : Option (Int32 × pm_S) :=
    some (t0, S)
set_option maxHeartbeats 4000000 in
set_option maxRecDepth 20000 in
theorem f_BP_count_121 (sp : pm_I → List Value → pm_S → pm_O → Prop) (d N : Nat)  (t0 : Int32) (S : pm_S) (r : (Int32 × pm_S)) (h : F_BP_count_121 N  t0 S = some r) : pm_E pG (pm_rel pG sp (d + 1)) mi_BP_count 121 [none, none, none] [.int t0] S (some (.int r.1), r.2) := by
  unfold F_BP_count_121 at h
  cases h
  exact pE_ret rfl rfl rfl
def F_BP_count_105 (N : Nat)  (t0 : Int32) (S : pm_S) : Option (Int32 × pm_S) :=
    some (t0, S)
set_option maxHeartbeats 4000000 in
set_option maxRecDepth 20000 in
theorem f_BP_count_105 (sp : pm_I → List Value → pm_S → pm_O → Prop) (d N : Nat)  (t0 : Int32) (S : pm_S) (r : (Int32 × pm_S)) (h : F_BP_count_105 N  t0 S = some r) : pm_E pG (pm_rel pG sp (d + 1)) mi_BP_count 105 [none, none, none] [.int t0] S (some (.int r.1), r.2) := by
  unfold F_BP_count_105 at h
  cases h
  exact pE_ret rfl rfl rfl
def F_BP_count_89 (N : Nat)  (t0 : Int32) (S : pm_S) : Option (Int32 × pm_S) :=
    some (t0, S)
set_option maxHeartbeats 4000000 in
set_option maxRecDepth 20000 in
theorem f_BP_count_89 (sp : pm_I → List Value → pm_S → pm_O → Prop) (d N : Nat)  (t0 : Int32) (S : pm_S) (r : (Int32 × pm_S)) (h : F_BP_count_89 N  t0 S = some r) : pm_E pG (pm_rel pG sp (d + 1)) mi_BP_count 89 [none, none, none] [.int t0] S (some (.int r.1), r.2) := by
  unfold F_BP_count_89 at h
  cases h
  exact pE_ret rfl rfl rfl
def F_BP_count_73 (N : Nat)  (t0 : Int32) (S : pm_S) : Option (Int32 × pm_S) :=
    some (t0, S)
set_option maxHeartbeats 4000000 in
set_option maxRecDepth 20000 in
theorem f_BP_count_73 (sp : pm_I → List Value → pm_S → pm_O → Prop) (d N : Nat)  (t0 : Int32) (S : pm_S) (r : (Int32 × pm_S)) (h : F_BP_count_73 N  t0 S = some r) : pm_E pG (pm_rel pG sp (d + 1)) mi_BP_count 73 [none, none, none] [.int t0] S (some (.int r.1), r.2) := by
  unfold F_BP_count_73 at h
  cases h
  exact pE_ret rfl rfl rfl
def F_BP_count (N : Nat) (S : pm_S) (a : Nat) (p0 : Int32) : Option (Int32 × pm_S) :=
    if rcv S a 10 = true then
    ((F_BP_planAt N S a 0).bind fun (oq2, S1) => match oq2 with
    | none => (if p0 = 0 then
    ((oI S1 a 10 6).bind fun v13 =>
    some (v13, S1))
    else
    (if p0 = 1 then
    ((oR S1 a 10 0).bind fun oq10 => match oq10 with
    | none => none
    | some q10 =>
    (F_Tape_size N S1 q10).bind fun (v12, S11) =>
    some (v12, S11))
    else
    (if p0 = 2 then
    F_BP_count_73 N 0 S1
    else
    (if p0 = 3 then
    F_BP_count_89 N 0 S1
    else
    (if p0 = 4 then
    F_BP_count_105 N 0 S1
    else
    (if p0 = 5 then
    F_BP_count_121 N 0 S1
    else
    (if p0 = 6 then
    F_BP_count_137 N 0 S1
    else
    some ((-1), S1))))))))
    | some q2 =>
    if p0 = 0 then
    ((oI S1 a 10 6).bind fun v37 =>
    some (v37, S1))
    else
    (if p0 = 1 then
    ((oR S1 a 10 0).bind fun oq34 => match oq34 with
    | none => none
    | some q34 =>
    (F_Tape_size N S1 q34).bind fun (v36, S35) =>
    some (v36, S35))
    else
    (if p0 = 2 then
    ((oI S1 q2 4 0).bind fun v33 =>
    F_BP_count_73 N v33 S1)
    else
    (if p0 = 3 then
    ((oR S1 q2 4 1).bind fun oq30 => match oq30 with
    | none => none
    | some q30 =>
    (F_Ledger_size N S1 q30).bind fun (v32, S31) =>
    F_BP_count_89 N v32 S31)
    else
    (if p0 = 4 then
    ((oR S1 q2 4 6).bind fun oq27 => match oq27 with
    | none => none
    | some q27 =>
    (F_Ledger_size N S1 q27).bind fun (v29, S28) =>
    F_BP_count_105 N v29 S28)
    else
    (if p0 = 5 then
    ((oR S1 q2 4 8).bind fun oq24 => match oq24 with
    | none => none
    | some q24 =>
    (F_Ledger_size N S1 q24).bind fun (v26, S25) =>
    F_BP_count_121 N v26 S25)
    else
    (if p0 = 6 then
    ((oR S1 q2 4 9).bind fun oq21 => match oq21 with
    | none => none
    | some q21 =>
    (F_Ledger_size N S1 q21).bind fun (v23, S22) =>
    F_BP_count_137 N v23 S22)
    else
    some ((-1), S1))))))))
    else none
theorem g_BP_count {N : Nat} {S : pm_S} {a : Nat} {p0 : Int32} {r : (Int32 × pm_S)} (h : F_BP_count N S a p0 = some r) : rcv S a 10 = true := by
  unfold F_BP_count at h
  by_cases c : rcv S a 10 = true
  · exact c
  · rw [if_neg c] at h; cases h
set_option maxHeartbeats 4000000 in
set_option maxRecDepth 20000 in
theorem f_BP_count (sp : pm_I → List Value → pm_S → pm_O → Prop) (d N : Nat) (S : pm_S) (a : Nat) (p0 : Int32) (r : (Int32 × pm_S)) (h : F_BP_count N S a p0 = some r) : pm_rel pG sp (d + 2) mi_BP_count [.ref a, .int p0] S (some (.int r.1), r.2) := by
  have hg := g_BP_count h
  unfold F_BP_count at h
  rw [if_pos hg] at h
  refine pE_rel (d := d + 1) ?_
  show pm_E pG _ mi_BP_count 0 [some (.ref a), some (.int p0), none] [] S _
  refine pE_jump 2 (pc' := 2) (ls' := [some (.ref a), some (.int p0), none]) (st' := [.int 0, .ref a]) (fun _ => rfl) ?_
  obtain ⟨⟨oq2, S1⟩, hq2, h⟩ := obind h
  dsimp only at h
  cases oq2 with
  | none =>
    refine pE_iv (Bs := [.int 0]) (st := []) 1 rfl (Or.inl ⟨rfl, rfl⟩) rfl rfl (by decide) (Nat.le_of_ble_eq_true rfl) (g_BP_planAt hq2) (f_BP_planAt sp d N S a 0 _ hq2) ?_
    refine pE_jump 2 (pc' := 7) (ls' := [some (.ref a), some (.int p0), some (.null)]) (st' := [.int p0]) (fun _ => rfl) ?_
    by_cases c3 : p0 = 0
    · rw [if_pos c3] at h
      refine pE_nx (pc' := 48) (ls' := [some (.ref a), some (.int p0), some (.null)]) (st' := []) (S' := S1) rfl (by rw [c3]; rfl) ?_
      refine pE_jump 1 (pc' := 49) (ls' := [some (.ref a), some (.int p0), some (.null)]) (st' := [.ref a]) (fun _ => rfl) ?_
      obtain ⟨v13, hv13, h⟩ := obind h
      refine pE_gfI rfl rfl hv13 ?_
      cases h
      exact pE_ret rfl rfl rfl
    · rw [if_neg c3] at h
      by_cases c4 : p0 = 1
      · rw [if_pos c4] at h
        refine pE_nx (pc' := 53) (ls' := [some (.ref a), some (.int p0), some (.null)]) (st' := []) (S' := S1) rfl (by rw [c4]; rfl) ?_
        refine pE_jump 1 (pc' := 54) (ls' := [some (.ref a), some (.int p0), some (.null)]) (st' := [.ref a]) (fun _ => rfl) ?_
        obtain ⟨oq10, hq10, h⟩ := obind h
        cases oq10 with
        | none => cases h
        | some q10 =>
          refine pE_gfS rfl rfl hq10 ?_
          obtain ⟨⟨v12, S11⟩, hv12, h⟩ := obind h
          dsimp only at h
          refine pE_iv (Bs := []) (st := []) 1 rfl (Or.inl ⟨rfl, rfl⟩) rfl rfl (by decide) (Nat.le_of_ble_eq_true rfl) (g_Tape_size hv12) (f_Tape_size sp d N S1 q10 _ hv12) ?_
          cases h
          exact pE_ret rfl rfl rfl
      · rw [if_neg c4] at h
        by_cases c5 : p0 = 2
        · rw [if_pos c5] at h
          refine pE_nx (pc' := 61) (ls' := [some (.ref a), some (.int p0), some (.null)]) (st' := []) (S' := S1) rfl (by rw [c5]; rfl) ?_
          refine pE_jump 4 (pc' := 73) (ls' := [some (.ref a), some (.int p0), some (.null)]) (st' := [.int 0]) (fun _ => rfl) ?_
          refine pE_weak [none, none, none] trivial ?_
          exact f_BP_count_73 sp d N 0 S1 _ h
        · rw [if_neg c5] at h
          by_cases c6 : p0 = 3
          · rw [if_pos c6] at h
            refine pE_nx (pc' := 74) (ls' := [some (.ref a), some (.int p0), some (.null)]) (st' := []) (S' := S1) rfl (by rw [c6]; rfl) ?_
            refine pE_jump 4 (pc' := 89) (ls' := [some (.ref a), some (.int p0), some (.null)]) (st' := [.int 0]) (fun _ => rfl) ?_
            refine pE_weak [none, none, none] trivial ?_
            exact f_BP_count_89 sp d N 0 S1 _ h
          · rw [if_neg c6] at h
            by_cases c7 : p0 = 4
            · rw [if_pos c7] at h
              refine pE_nx (pc' := 90) (ls' := [some (.ref a), some (.int p0), some (.null)]) (st' := []) (S' := S1) rfl (by rw [c7]; rfl) ?_
              refine pE_jump 4 (pc' := 105) (ls' := [some (.ref a), some (.int p0), some (.null)]) (st' := [.int 0]) (fun _ => rfl) ?_
              refine pE_weak [none, none, none] trivial ?_
              exact f_BP_count_105 sp d N 0 S1 _ h
            · rw [if_neg c7] at h
              by_cases c8 : p0 = 5
              · rw [if_pos c8] at h
                refine pE_nx (pc' := 106) (ls' := [some (.ref a), some (.int p0), some (.null)]) (st' := []) (S' := S1) rfl (by rw [c8]; rfl) ?_
                refine pE_jump 4 (pc' := 121) (ls' := [some (.ref a), some (.int p0), some (.null)]) (st' := [.int 0]) (fun _ => rfl) ?_
                refine pE_weak [none, none, none] trivial ?_
                exact f_BP_count_121 sp d N 0 S1 _ h
              · rw [if_neg c8] at h
                by_cases c9 : p0 = 6
                · rw [if_pos c9] at h
                  refine pE_nx (pc' := 122) (ls' := [some (.ref a), some (.int p0), some (.null)]) (st' := []) (S' := S1) rfl (by rw [c9]; rfl) ?_
                  refine pE_jump 4 (pc' := 137) (ls' := [some (.ref a), some (.int p0), some (.null)]) (st' := [.int 0]) (fun _ => rfl) ?_
                  refine pE_weak [none, none, none] trivial ?_
                  exact f_BP_count_137 sp d N 0 S1 _ h
                · rw [if_neg c9] at h
                  refine pE_swD rfl (pm_swd6 c3 c4 c5 c6 c7 c8 c9) ?_
                  refine pE_jump 1 (pc' := 139) (ls' := [some (.ref a), some (.int p0), some (.null)]) (st' := [.int (-1)]) (fun _ => rfl) ?_
                  cases h
                  exact pE_ret rfl rfl rfl
  | some q2 =>
    refine pE_iv (Bs := [.int 0]) (st := []) 1 rfl (Or.inl ⟨rfl, rfl⟩) rfl rfl (by decide) (Nat.le_of_ble_eq_true rfl) (g_BP_planAt hq2) (f_BP_planAt sp d N S a 0 _ hq2) ?_
    refine pE_jump 2 (pc' := 7) (ls' := [some (.ref a), some (.int p0), some (.ref q2)]) (st' := [.int p0]) (fun _ => rfl) ?_
    by_cases c14 : p0 = 0
    · rw [if_pos c14] at h
      refine pE_nx (pc' := 48) (ls' := [some (.ref a), some (.int p0), some (.ref q2)]) (st' := []) (S' := S1) rfl (by rw [c14]; rfl) ?_
      refine pE_jump 1 (pc' := 49) (ls' := [some (.ref a), some (.int p0), some (.ref q2)]) (st' := [.ref a]) (fun _ => rfl) ?_
      obtain ⟨v37, hv37, h⟩ := obind h
      refine pE_gfI rfl rfl hv37 ?_
      cases h
      exact pE_ret rfl rfl rfl
    · rw [if_neg c14] at h
      by_cases c15 : p0 = 1
      · rw [if_pos c15] at h
        refine pE_nx (pc' := 53) (ls' := [some (.ref a), some (.int p0), some (.ref q2)]) (st' := []) (S' := S1) rfl (by rw [c15]; rfl) ?_
        refine pE_jump 1 (pc' := 54) (ls' := [some (.ref a), some (.int p0), some (.ref q2)]) (st' := [.ref a]) (fun _ => rfl) ?_
        obtain ⟨oq34, hq34, h⟩ := obind h
        cases oq34 with
        | none => cases h
        | some q34 =>
          refine pE_gfS rfl rfl hq34 ?_
          obtain ⟨⟨v36, S35⟩, hv36, h⟩ := obind h
          dsimp only at h
          refine pE_iv (Bs := []) (st := []) 1 rfl (Or.inl ⟨rfl, rfl⟩) rfl rfl (by decide) (Nat.le_of_ble_eq_true rfl) (g_Tape_size hv36) (f_Tape_size sp d N S1 q34 _ hv36) ?_
          cases h
          exact pE_ret rfl rfl rfl
      · rw [if_neg c15] at h
        by_cases c16 : p0 = 2
        · rw [if_pos c16] at h
          refine pE_nx (pc' := 61) (ls' := [some (.ref a), some (.int p0), some (.ref q2)]) (st' := []) (S' := S1) rfl (by rw [c16]; rfl) ?_
          refine pE_jump 3 (pc' := 70) (ls' := [some (.ref a), some (.int p0), some (.ref q2)]) (st' := [.ref q2]) (fun _ => rfl) ?_
          obtain ⟨v33, hv33, h⟩ := obind h
          refine pE_gfI rfl rfl hv33 ?_
          refine pE_weak [none, none, none] trivial ?_
          exact f_BP_count_73 sp d N v33 S1 _ h
        · rw [if_neg c16] at h
          by_cases c17 : p0 = 3
          · rw [if_pos c17] at h
            refine pE_nx (pc' := 74) (ls' := [some (.ref a), some (.int p0), some (.ref q2)]) (st' := []) (S' := S1) rfl (by rw [c17]; rfl) ?_
            refine pE_jump 3 (pc' := 83) (ls' := [some (.ref a), some (.int p0), some (.ref q2)]) (st' := [.ref q2]) (fun _ => rfl) ?_
            obtain ⟨oq30, hq30, h⟩ := obind h
            cases oq30 with
            | none => cases h
            | some q30 =>
              refine pE_gfS rfl rfl hq30 ?_
              obtain ⟨⟨v32, S31⟩, hv32, h⟩ := obind h
              dsimp only at h
              refine pE_iv (Bs := []) (st := []) 1 rfl (Or.inl ⟨rfl, rfl⟩) rfl rfl (by decide) (Nat.le_of_ble_eq_true rfl) (g_Ledger_size hv32) (f_Ledger_size sp d N S1 q30 _ hv32) ?_
              refine pE_weak [none, none, none] trivial ?_
              exact f_BP_count_89 sp d N v32 S31 _ h
          · rw [if_neg c17] at h
            by_cases c18 : p0 = 4
            · rw [if_pos c18] at h
              refine pE_nx (pc' := 90) (ls' := [some (.ref a), some (.int p0), some (.ref q2)]) (st' := []) (S' := S1) rfl (by rw [c18]; rfl) ?_
              refine pE_jump 3 (pc' := 99) (ls' := [some (.ref a), some (.int p0), some (.ref q2)]) (st' := [.ref q2]) (fun _ => rfl) ?_
              obtain ⟨oq27, hq27, h⟩ := obind h
              cases oq27 with
              | none => cases h
              | some q27 =>
                refine pE_gfS rfl rfl hq27 ?_
                obtain ⟨⟨v29, S28⟩, hv29, h⟩ := obind h
                dsimp only at h
                refine pE_iv (Bs := []) (st := []) 1 rfl (Or.inl ⟨rfl, rfl⟩) rfl rfl (by decide) (Nat.le_of_ble_eq_true rfl) (g_Ledger_size hv29) (f_Ledger_size sp d N S1 q27 _ hv29) ?_
                refine pE_weak [none, none, none] trivial ?_
                exact f_BP_count_105 sp d N v29 S28 _ h
            · rw [if_neg c18] at h
              by_cases c19 : p0 = 5
              · rw [if_pos c19] at h
                refine pE_nx (pc' := 106) (ls' := [some (.ref a), some (.int p0), some (.ref q2)]) (st' := []) (S' := S1) rfl (by rw [c19]; rfl) ?_
                refine pE_jump 3 (pc' := 115) (ls' := [some (.ref a), some (.int p0), some (.ref q2)]) (st' := [.ref q2]) (fun _ => rfl) ?_
                obtain ⟨oq24, hq24, h⟩ := obind h
                cases oq24 with
                | none => cases h
                | some q24 =>
                  refine pE_gfS rfl rfl hq24 ?_
                  obtain ⟨⟨v26, S25⟩, hv26, h⟩ := obind h
                  dsimp only at h
                  refine pE_iv (Bs := []) (st := []) 1 rfl (Or.inl ⟨rfl, rfl⟩) rfl rfl (by decide) (Nat.le_of_ble_eq_true rfl) (g_Ledger_size hv26) (f_Ledger_size sp d N S1 q24 _ hv26) ?_
                  refine pE_weak [none, none, none] trivial ?_
                  exact f_BP_count_121 sp d N v26 S25 _ h
              · rw [if_neg c19] at h
                by_cases c20 : p0 = 6
                · rw [if_pos c20] at h
                  refine pE_nx (pc' := 122) (ls' := [some (.ref a), some (.int p0), some (.ref q2)]) (st' := []) (S' := S1) rfl (by rw [c20]; rfl) ?_
                  refine pE_jump 3 (pc' := 131) (ls' := [some (.ref a), some (.int p0), some (.ref q2)]) (st' := [.ref q2]) (fun _ => rfl) ?_
                  obtain ⟨oq21, hq21, h⟩ := obind h
                  cases oq21 with
                  | none => cases h
                  | some q21 =>
                    refine pE_gfS rfl rfl hq21 ?_
                    obtain ⟨⟨v23, S22⟩, hv23, h⟩ := obind h
                    dsimp only at h
                    refine pE_iv (Bs := []) (st := []) 1 rfl (Or.inl ⟨rfl, rfl⟩) rfl rfl (by decide) (Nat.le_of_ble_eq_true rfl) (g_Ledger_size hv23) (f_Ledger_size sp d N S1 q21 _ hv23) ?_
                    refine pE_weak [none, none, none] trivial ?_
                    exact f_BP_count_137 sp d N v23 S22 _ h
                · rw [if_neg c20] at h
                  refine pE_swD rfl (pm_swd6 c14 c15 c16 c17 c18 c19 c20) ?_
                  refine pE_jump 1 (pc' := 139) (ls' := [some (.ref a), some (.int p0), some (.ref q2)]) (st' := [.int (-1)]) (fun _ => rfl) ?_
                  cases h
                  exact pE_ret rfl rfl rfl
def F_M_here_28 (N : Nat)  (t0 : Int32) (S : pm_S) : Option (Int32 × pm_S) :=
    some (t0, S)
set_option maxHeartbeats 4000000 in
set_option maxRecDepth 20000 in
theorem f_M_here_28 (sp : pm_I → List Value → pm_S → pm_O → Prop) (d N : Nat)  (t0 : Int32) (S : pm_S) (r : (Int32 × pm_S)) (h : F_M_here_28 N  t0 S = some r) : pm_E pG (pm_rel pG sp (d + 0)) mi_M_here 28 [none] [.int t0] S (some (.int r.1), r.2) := by
  unfold F_M_here_28 at h
  cases h
  exact pE_ret rfl rfl rfl
def F_M_here (N : Nat) (S : pm_S) (a : Nat) : Option (Int32 × pm_S) :=
    if rcv S a 11 = true then
    ((oI S a 11 3).bind fun v1 =>
    (oI S a 11 2).bind fun v2 =>
    if v2 ≤ v1 then
    F_M_here_28 N (-1) S
    else
    ((oR S a 11 1).bind fun oq3 => match oq3 with
    | none => none
    | some q3 =>
    (oI S a 11 3).bind fun v5 =>
    (aI [2, 3] S q3 v5).bind fun v6 =>
    F_M_here_28 N (v6 &&& 255) S))
    else none
theorem g_M_here {N : Nat} {S : pm_S} {a : Nat} {r : (Int32 × pm_S)} (h : F_M_here N S a = some r) : rcv S a 11 = true := by
  unfold F_M_here at h
  by_cases c : rcv S a 11 = true
  · exact c
  · rw [if_neg c] at h; cases h
set_option maxHeartbeats 4000000 in
set_option maxRecDepth 20000 in
theorem f_M_here (sp : pm_I → List Value → pm_S → pm_O → Prop) (d N : Nat) (S : pm_S) (a : Nat) (r : (Int32 × pm_S)) (h : F_M_here N S a = some r) : pm_rel pG sp (d + 1) mi_M_here [.ref a] S (some (.int r.1), r.2) := by
  have hg := g_M_here h
  unfold F_M_here at h
  rw [if_pos hg] at h
  refine pE_rel (d := d + 0) ?_
  show pm_E pG _ mi_M_here 0 [some (.ref a)] [] S _
  refine pE_jump 1 (pc' := 1) (ls' := [some (.ref a)]) (st' := [.ref a]) (fun _ => rfl) ?_
  obtain ⟨v1, hv1, h⟩ := obind h
  refine pE_gfI rfl rfl hv1 ?_
  refine pE_jump 1 (pc' := 5) (ls' := [some (.ref a)]) (st' := [.ref a, .int v1]) (fun _ => rfl) ?_
  obtain ⟨v2, hv2, h⟩ := obind h
  refine pE_gfI rfl rfl hv2 ?_
  refine pE_br (v2 ≤ v1) rfl rfl (fun c7 => ?_) (fun c7 => ?_)
  · rw [if_pos c7] at h
    refine pE_jump 1 (pc' := 28) (ls' := [some (.ref a)]) (st' := [.int (-1)]) (fun _ => rfl) ?_
    refine pE_weak [none] trivial ?_
    exact f_M_here_28 sp d N (-1) S _ h
  · rw [if_neg c7] at h
    refine pE_jump 1 (pc' := 12) (ls' := [some (.ref a)]) (st' := [.ref a]) (fun _ => rfl) ?_
    obtain ⟨oq3, hq3, h⟩ := obind h
    cases oq3 with
    | none => cases h
    | some q3 =>
      refine pE_gfS rfl rfl hq3 ?_
      refine pE_jump 1 (pc' := 16) (ls' := [some (.ref a)]) (st' := [.ref a, .ref q3]) (fun _ => rfl) ?_
      obtain ⟨v5, hv5, h⟩ := obind h
      refine pE_gfI rfl rfl hv5 ?_
      obtain ⟨v6, hv6, h⟩ := obind h
      refine pE_aI rfl rfl hv6 ?_
      refine pE_jump 3 (pc' := 28) (ls' := [some (.ref a)]) (st' := [.int (v6 &&& 255)]) (fun _ => rfl) ?_
      refine pE_weak [none] trivial ?_
      exact f_M_here_28 sp d N (v6 &&& 255) S _ h
def F_M_look_22 (N : Nat)  (x0 : Nat) (S : pm_S) : Option (Int32 × pm_S) :=
    (F_M_here N S x0).bind fun (v6, S5) =>
    some (v6, S5)
set_option maxHeartbeats 4000000 in
set_option maxRecDepth 20000 in
theorem f_M_look_22 (sp : pm_I → List Value → pm_S → pm_O → Prop) (d N : Nat)  (x0 : Nat) (S : pm_S) (r : (Int32 × pm_S)) (h : F_M_look_22 N  x0 S = some r) : pm_E pG (pm_rel pG sp (d + 1)) mi_M_look 22 [some (.ref x0)] [] S (some (.int r.1), r.2) := by
  unfold F_M_look_22 at h
  refine pE_jump 1 (pc' := 23) (ls' := [some (.ref x0)]) (st' := [.ref x0]) (fun _ => rfl) ?_
  obtain ⟨⟨v6, S5⟩, hv6, h⟩ := obind h
  dsimp only at h
  refine pE_iv (Bs := []) (st := []) 1 rfl (Or.inl ⟨rfl, rfl⟩) rfl rfl (by decide) (Nat.le_of_ble_eq_true rfl) (g_M_here hv6) (f_M_here sp d N S x0 _ hv6) ?_
  cases h
  exact pE_ret rfl rfl rfl
def B_M_look_0 (N : Nat)  (rec0 : pm_S → Option (Int32 × pm_S)) (x0 : Nat)  (S : pm_S) : Option (Int32 × pm_S) :=
    (F_M_here N S x0).bind fun (v2, S1) =>
    if v2 = 32 then
    ((oI S1 x0 11 3).bind fun v3 =>
    (wF S1 x0 11 3 .int (.int (v3 + 1))).bind fun S4 =>
    rec0 S4)
    else
    F_M_look_22 N x0 S1
def F_M_look_0 (N : Nat)  (x0 : Nat) : Nat → pm_S → Option (Int32 × pm_S)
  | 0 => fun _ => none
  | n + 1 => fun  S => B_M_look_0 N  (F_M_look_0 N  x0 n) x0  S
set_option maxHeartbeats 4000000 in
set_option maxRecDepth 20000 in
theorem f_M_look_0 (sp : pm_I → List Value → pm_S → pm_O → Prop) (d N : Nat)  (x0 : Nat) : ∀ (n : Nat)  (S : pm_S) (r : (Int32 × pm_S)), F_M_look_0 N  x0 n  S = some r → pm_E pG (pm_rel pG sp (d + 1)) mi_M_look 0 [some (.ref x0)] [] S (some (.int r.1), r.2) := by
  intro n
  induction n with
  | zero =>
    intro  S r h
    cases h
  | succ n ih =>
    intro  S r h
    replace h : B_M_look_0 N  (F_M_look_0 N  x0 n) x0  S = some r := h
    have hrec0 := ih
    generalize F_M_look_0 N  x0 n = rec0 at h hrec0
    unfold B_M_look_0 at h
    refine pE_jump 1 (pc' := 1) (ls' := [some (.ref x0)]) (st' := [.ref x0]) (fun _ => rfl) ?_
    obtain ⟨⟨v2, S1⟩, hv2, h⟩ := obind h
    dsimp only at h
    refine pE_iv (Bs := []) (st := []) 1 rfl (Or.inl ⟨rfl, rfl⟩) rfl rfl (by decide) (Nat.le_of_ble_eq_true rfl) (g_M_here hv2) (f_M_here sp d N S x0 _ hv2) ?_
    refine pE_jump 1 (pc' := 6) (ls' := [some (.ref x0)]) (st' := [.int 32, .int v2]) (fun _ => rfl) ?_
    refine pE_br (¬ v2 = 32) rfl rfl (fun c7 => ?_) (fun c7 => ?_)
    · rw [if_neg c7] at h
      exact f_M_look_22 sp d N x0 S1 _ h
    · have c7 := Decidable.not_not.mp c7
      rw [if_pos c7] at h
      refine pE_jump 2 (pc' := 11) (ls' := [some (.ref x0)]) (st' := [.ref x0, .ref x0]) (fun _ => rfl) ?_
      obtain ⟨v3, hv3, h⟩ := obind h
      refine pE_gfI rfl rfl hv3 ?_
      refine pE_jump 2 (pc' := 16) (ls' := [some (.ref x0)]) (st' := [.int (v3 + 1), .ref x0]) (fun _ => rfl) ?_
      obtain ⟨S4, hS4, h⟩ := obind h
      refine pE_pf rfl rfl rfl hS4 ?_
      refine pE_jump 1 (pc' := 0) (ls' := [some (.ref x0)]) (st' := []) (fun _ => rfl) ?_
      exact hrec0 S4 _ h
def F_M_look (N : Nat) (S : pm_S) (a : Nat) : Option (Int32 × pm_S) :=
    if rcv S a 11 = true then
    (F_M_look_0 N a N S)
    else none
theorem g_M_look {N : Nat} {S : pm_S} {a : Nat} {r : (Int32 × pm_S)} (h : F_M_look N S a = some r) : rcv S a 11 = true := by
  unfold F_M_look at h
  by_cases c : rcv S a 11 = true
  · exact c
  · rw [if_neg c] at h; cases h
set_option maxHeartbeats 4000000 in
set_option maxRecDepth 20000 in
theorem f_M_look (sp : pm_I → List Value → pm_S → pm_O → Prop) (d N : Nat) (S : pm_S) (a : Nat) (r : (Int32 × pm_S)) (h : F_M_look N S a = some r) : pm_rel pG sp (d + 2) mi_M_look [.ref a] S (some (.int r.1), r.2) := by
  have hg := g_M_look h
  unfold F_M_look at h
  rw [if_pos hg] at h
  refine pE_rel (d := d + 1) ?_
  show pm_E pG _ mi_M_look 0 [some (.ref a)] [] S _
  exact f_M_look_0 sp d N a N S _ h
