def F_Wires_wireAt_16 (N : Nat)  (t0 : Int32) (S : pm_S) : Option (Int32 × pm_S) :=
    some (t0, S)
set_option maxHeartbeats 4000000 in
set_option maxRecDepth 20000 in
theorem f_Wires_wireAt_16 (sp : pm_I → List Value → pm_S → pm_O → Prop) (d N : Nat)  (t0 : Int32) (S : pm_S)  (r : (Int32 × pm_S)) (h : F_Wires_wireAt_16 N  t0 S = some r) : pmE pG (pm_rel pG sp (d + 1)) mi_Wires_wireAt 16 [none, none, none] [.int t0] S (some (.int r.1), r.2) := by
  unfold F_Wires_wireAt_16 at h
  cases h
  exact pE_ret rfl rfl rfl
def F_Wires_wireAt (N : Nat) (S : pm_S) (a : Nat) (p0 : Int32) (p1 : Int32) : Option (Int32 × pm_S) :=
    if rcv S a 9 = true then
    (if p1 = 0 then
    F_Wires_wireAt_16 N p0 S
    else
    ((oR S a 9 2).bind fun oq1 => match oq1 with
    | none => none
    | some q1 =>
    (F_BP_valueAt N S q1 p0).bind fun (v3, S2) =>
    F_Wires_wireAt_16 N v3 S2))
    else none
theorem g_Wires_wireAt {N : Nat} {S : pm_S} {a : Nat} {p0 : Int32} {p1 : Int32} {r : (Int32 × pm_S)} (h : F_Wires_wireAt N S a p0 p1 = some r) : rcv S a 9 = true := by
  unfold F_Wires_wireAt at h
  by_cases c : rcv S a 9 = true
  · exact c
  · rw [if_neg c] at h; cases h
set_option maxHeartbeats 4000000 in
set_option maxRecDepth 20000 in
theorem f_Wires_wireAt (sp : pm_I → List Value → pm_S → pm_O → Prop) (d N : Nat) (S : pm_S) (a : Nat) (p0 : Int32) (p1 : Int32) (r : (Int32 × pm_S)) (h : F_Wires_wireAt N S a p0 p1 = some r) : pm_rel pG sp (d + 2) mi_Wires_wireAt [.ref a, .int p0, .int p1] S (some (.int r.1), r.2) := by
  have hg := g_Wires_wireAt h
  unfold F_Wires_wireAt at h
  rw [if_pos hg] at h
  refine pE_rel (d := d + 1) ?_
  show pmE pG _ mi_Wires_wireAt 0 [some (.ref a), some (.int p0), some (.int p1)] [] S _
  refine pE_jump 1 (pc' := 1) (ls' := [some (.ref a), some (.int p0), some (.int p1)]) (st' := [.int p1]) (fun _ => rfl) ?_
  refine pE_br (¬ p1 = 0) rfl rfl (fun c4 => ?_) (fun c4 => ?_)
  · rw [if_neg c4] at h
    refine pE_jump 1 (pc' := 9) (ls' := [some (.ref a), some (.int p0), some (.int p1)]) (st' := [.ref a]) (fun _ => rfl) ?_
    obtain ⟨oq1, hq1, h⟩ := obind h
    cases oq1 with
    | none => cases h
    | some q1 =>
      try dsimp only at h
      refine pE_gfS rfl rfl hq1 ?_
      refine pE_jump 1 (pc' := 13) (ls' := [some (.ref a), some (.int p0), some (.int p1)]) (st' := [.int p0, .ref q1]) (fun _ => rfl) ?_
      obtain ⟨⟨v3, S2⟩, hv3, h⟩ := obind h
      try dsimp only at h
      refine pE_is (Bs := [.ref q1, .int p0]) (st := []) rfl rfl rfl (Nat.le_of_ble_eq_true rfl) (Nat.le_of_ble_eq_true rfl) (f_BP_valueAt sp d N S q1 p0 _ hv3) ?_
      refine pE_weak [none, none, none] trivial ?_
      exact f_Wires_wireAt_16 sp d N v3 S2 _ h
  · have c4 := Decidable.not_not.mp c4
    rw [if_pos c4] at h
    refine pE_jump 2 (pc' := 16) (ls' := [some (.ref a), some (.int p0), some (.int p1)]) (st' := [.int p0]) (fun _ => rfl) ?_
    refine pE_weak [none, none, none] trivial ?_
    exact f_Wires_wireAt_16 sp d N p0 S _ h
def F_Wires_pieceAtEnd_16 (N : Nat)  (t0 : Int32) (S : pm_S) : Option (Int32 × pm_S) :=
    some (t0, S)
set_option maxHeartbeats 4000000 in
set_option maxRecDepth 20000 in
theorem f_Wires_pieceAtEnd_16 (sp : pm_I → List Value → pm_S → pm_O → Prop) (d N : Nat)  (t0 : Int32) (S : pm_S)  (r : (Int32 × pm_S)) (h : F_Wires_pieceAtEnd_16 N  t0 S = some r) : pmE pG (pm_rel pG sp (d + 1)) mi_Wires_pieceAtEnd 16 [none, none, none] [.int t0] S (some (.int r.1), r.2) := by
  unfold F_Wires_pieceAtEnd_16 at h
  cases h
  exact pE_ret rfl rfl rfl
def F_Wires_pieceAtEnd (N : Nat) (S : pm_S) (a : Nat) (p0 : Int32) (p1 : Int32) : Option (Int32 × pm_S) :=
    if rcv S a 9 = true then
    (if p1 = 0 then
    F_Wires_pieceAtEnd_16 N 0 S
    else
    ((oR S a 9 3).bind fun oq1 => match oq1 with
    | none => none
    | some q1 =>
    (F_BP_valueAt N S q1 p0).bind fun (v3, S2) =>
    F_Wires_pieceAtEnd_16 N v3 S2))
    else none
theorem g_Wires_pieceAtEnd {N : Nat} {S : pm_S} {a : Nat} {p0 : Int32} {p1 : Int32} {r : (Int32 × pm_S)} (h : F_Wires_pieceAtEnd N S a p0 p1 = some r) : rcv S a 9 = true := by
  unfold F_Wires_pieceAtEnd at h
  by_cases c : rcv S a 9 = true
  · exact c
  · rw [if_neg c] at h; cases h
set_option maxHeartbeats 4000000 in
set_option maxRecDepth 20000 in
theorem f_Wires_pieceAtEnd (sp : pm_I → List Value → pm_S → pm_O → Prop) (d N : Nat) (S : pm_S) (a : Nat) (p0 : Int32) (p1 : Int32) (r : (Int32 × pm_S)) (h : F_Wires_pieceAtEnd N S a p0 p1 = some r) : pm_rel pG sp (d + 2) mi_Wires_pieceAtEnd [.ref a, .int p0, .int p1] S (some (.int r.1), r.2) := by
  have hg := g_Wires_pieceAtEnd h
  unfold F_Wires_pieceAtEnd at h
  rw [if_pos hg] at h
  refine pE_rel (d := d + 1) ?_
  show pmE pG _ mi_Wires_pieceAtEnd 0 [some (.ref a), some (.int p0), some (.int p1)] [] S _
  refine pE_jump 1 (pc' := 1) (ls' := [some (.ref a), some (.int p0), some (.int p1)]) (st' := [.int p1]) (fun _ => rfl) ?_
  refine pE_br (¬ p1 = 0) rfl rfl (fun c4 => ?_) (fun c4 => ?_)
  · rw [if_neg c4] at h
    refine pE_jump 1 (pc' := 9) (ls' := [some (.ref a), some (.int p0), some (.int p1)]) (st' := [.ref a]) (fun _ => rfl) ?_
    obtain ⟨oq1, hq1, h⟩ := obind h
    cases oq1 with
    | none => cases h
    | some q1 =>
      try dsimp only at h
      refine pE_gfS rfl rfl hq1 ?_
      refine pE_jump 1 (pc' := 13) (ls' := [some (.ref a), some (.int p0), some (.int p1)]) (st' := [.int p0, .ref q1]) (fun _ => rfl) ?_
      obtain ⟨⟨v3, S2⟩, hv3, h⟩ := obind h
      try dsimp only at h
      refine pE_is (Bs := [.ref q1, .int p0]) (st := []) rfl rfl rfl (Nat.le_of_ble_eq_true rfl) (Nat.le_of_ble_eq_true rfl) (f_BP_valueAt sp d N S q1 p0 _ hv3) ?_
      refine pE_weak [none, none, none] trivial ?_
      exact f_Wires_pieceAtEnd_16 sp d N v3 S2 _ h
  · have c4 := Decidable.not_not.mp c4
    rw [if_pos c4] at h
    refine pE_jump 2 (pc' := 16) (ls' := [some (.ref a), some (.int p0), some (.int p1)]) (st' := [.int 0]) (fun _ => rfl) ?_
    refine pE_weak [none, none, none] trivial ?_
    exact f_Wires_pieceAtEnd_16 sp d N 0 S _ h
def F_Tone_come_78 (N : Nat)   (S : pm_S) : Option pm_S :=
    some S
set_option maxHeartbeats 4000000 in
set_option maxRecDepth 20000 in
theorem f_Tone_come_78 (sp : pm_I → List Value → pm_S → pm_O → Prop) (d N : Nat)   (S : pm_S)  (r : pm_S) (h : F_Tone_come_78 N   S = some r) : pmE pG (pm_rel pG sp (d + 1)) mi_Tone_come 78 [none, none, none, none] [] S (none, r) := by
  unfold F_Tone_come_78 at h
  cases h
  exact pE_ret rfl rfl rfl
def F_Tone_come (N : Nat) (S : pm_S) (a : Nat) (p0 : Int32) (p1 : Int32) : Option pm_S :=
    if rcv S a 8 = true then
    ((oR S a 8 0).bind fun oq1 => match oq1 with
    | none => none
    | some q1 =>
    (F_BP_valueAt N S q1 p0).bind fun (v3, S2) =>
    if p0 < 0 then
    F_Tone_come_78 N S2
    else
    (if 56 ≤ p0 then
    F_Tone_come_78 N S2
    else
    (if ((v3 >>> (p1 &&& 31)) &&& 1) = 0 then
    ((oI S2 a 8 4).bind fun v4 =>
    (oR S2 a 8 1).bind fun oq5 => match oq5 with
    | none => none
    | some q5 =>
    (aNS S2 q5).bind fun v6 =>
    if v6 ≤ v4 then
    F_Tone_come_78 N S2
    else
    ((oR S2 a 8 0).bind fun oq7 => match oq7 with
    | none => none
    | some q7 =>
    (F_BP_setAt N S2 q7 p0 (v3 ||| (1 <<< (p1 &&& 31)))).bind fun S8 =>
    (oR S8 a 8 1).bind fun oq9 => match oq9 with
    | none => none
    | some q9 =>
    (oI S8 a 8 4).bind fun v11 =>
    (F_BP_setAt N S8 q9 v11 ((p0 <<< (4 &&& 31)) ||| p1)).bind fun S12 =>
    (oI S12 a 8 4).bind fun v13 =>
    (wF S12 a 8 4 .int (.int (v13 + 1))).bind fun S14 =>
    F_Tone_come_78 N S14))
    else
    F_Tone_come_78 N S2)))
    else none
theorem g_Tone_come {N : Nat} {S : pm_S} {a : Nat} {p0 : Int32} {p1 : Int32} {r : pm_S} (h : F_Tone_come N S a p0 p1 = some r) : rcv S a 8 = true := by
  unfold F_Tone_come at h
  by_cases c : rcv S a 8 = true
  · exact c
  · rw [if_neg c] at h; cases h
set_option maxHeartbeats 4000000 in
set_option maxRecDepth 20000 in
theorem f_Tone_come (sp : pm_I → List Value → pm_S → pm_O → Prop) (d N : Nat) (S : pm_S) (a : Nat) (p0 : Int32) (p1 : Int32) (r : pm_S) (h : F_Tone_come N S a p0 p1 = some r) : pm_rel pG sp (d + 2) mi_Tone_come [.ref a, .int p0, .int p1] S (none, r) := by
  have hg := g_Tone_come h
  unfold F_Tone_come at h
  rw [if_pos hg] at h
  refine pE_rel (d := d + 1) ?_
  show pmE pG _ mi_Tone_come 0 [some (.ref a), some (.int p0), some (.int p1), none] [] S _
  refine pE_jump 1 (pc' := 1) (ls' := [some (.ref a), some (.int p0), some (.int p1), none]) (st' := [.ref a]) (fun _ => rfl) ?_
  obtain ⟨oq1, hq1, h⟩ := obind h
  cases oq1 with
  | none => cases h
  | some q1 =>
    try dsimp only at h
    refine pE_gfS rfl rfl hq1 ?_
    refine pE_jump 1 (pc' := 5) (ls' := [some (.ref a), some (.int p0), some (.int p1), none]) (st' := [.int p0, .ref q1]) (fun _ => rfl) ?_
    obtain ⟨⟨v3, S2⟩, hv3, h⟩ := obind h
    try dsimp only at h
    refine pE_is (Bs := [.ref q1, .int p0]) (st := []) rfl rfl rfl (Nat.le_of_ble_eq_true rfl) (Nat.le_of_ble_eq_true rfl) (f_BP_valueAt sp d N S q1 p0 _ hv3) ?_
    refine pE_jump 2 (pc' := 10) (ls' := [some (.ref a), some (.int p0), some (.int p1), some (.int v3)]) (st' := [.int p0]) (fun _ => rfl) ?_
    refine pE_br (p0 < 0) rfl rfl (fun c18 => ?_) (fun c18 => ?_)
    · rw [if_pos c18] at h
      refine pE_weak [none, none, none, none] trivial ?_
      exact f_Tone_come_78 sp d N S2 _ h
    · rw [if_neg c18] at h
      refine pE_jump 2 (pc' := 16) (ls' := [some (.ref a), some (.int p0), some (.int p1), some (.int v3)]) (st' := [.int 56, .int p0]) (fun _ => rfl) ?_
      refine pE_br (56 ≤ p0) rfl rfl (fun c17 => ?_) (fun c17 => ?_)
      · rw [if_pos c17] at h
        refine pE_weak [none, none, none, none] trivial ?_
        exact f_Tone_come_78 sp d N S2 _ h
      · rw [if_neg c17] at h
        refine pE_jump 5 (pc' := 24) (ls' := [some (.ref a), some (.int p0), some (.int p1), some (.int v3)]) (st' := [.int ((v3 >>> (p1 &&& 31)) &&& 1)]) (fun _ => rfl) ?_
        refine pE_br (¬ ((v3 >>> (p1 &&& 31)) &&& 1) = 0) rfl rfl (fun c16 => ?_) (fun c16 => ?_)
        · rw [if_neg c16] at h
          refine pE_weak [none, none, none, none] trivial ?_
          exact f_Tone_come_78 sp d N S2 _ h
        · have c16 := Decidable.not_not.mp c16
          rw [if_pos c16] at h
          refine pE_jump 1 (pc' := 28) (ls' := [some (.ref a), some (.int p0), some (.int p1), some (.int v3)]) (st' := [.ref a]) (fun _ => rfl) ?_
          obtain ⟨v4, hv4, h⟩ := obind h
          refine pE_gfI rfl rfl hv4 ?_
          refine pE_jump 1 (pc' := 32) (ls' := [some (.ref a), some (.int p0), some (.int p1), some (.int v3)]) (st' := [.ref a, .int v4]) (fun _ => rfl) ?_
          obtain ⟨oq5, hq5, h⟩ := obind h
          cases oq5 with
          | none => cases h
          | some q5 =>
            try dsimp only at h
            refine pE_gfS rfl rfl hq5 ?_
            obtain ⟨v6, hv6, h⟩ := obind h
            refine pE_aN rfl hv6 ?_
            refine pE_br (v6 ≤ v4) rfl rfl (fun c15 => ?_) (fun c15 => ?_)
            · rw [if_pos c15] at h
              refine pE_weak [none, none, none, none] trivial ?_
              exact f_Tone_come_78 sp d N S2 _ h
            · rw [if_neg c15] at h
              refine pE_jump 1 (pc' := 40) (ls' := [some (.ref a), some (.int p0), some (.int p1), some (.int v3)]) (st' := [.ref a]) (fun _ => rfl) ?_
              obtain ⟨oq7, hq7, h⟩ := obind h
              cases oq7 with
              | none => cases h
              | some q7 =>
                try dsimp only at h
                refine pE_gfS rfl rfl hq7 ?_
                refine pE_jump 6 (pc' := 49) (ls' := [some (.ref a), some (.int p0), some (.int p1), some (.int v3)]) (st' := [.int (v3 ||| (1 <<< (p1 &&& 31))), .int p0, .ref q7]) (fun _ => rfl) ?_
                obtain ⟨S8, hS8, h⟩ := obind h
                refine pE_is (Bs := [.ref q7, .int p0, .int (v3 ||| (1 <<< (p1 &&& 31)))]) (st := []) rfl rfl rfl (Nat.le_of_ble_eq_true rfl) (Nat.le_of_ble_eq_true rfl) (f_BP_setAt sp d N S2 q7 p0 (v3 ||| (1 <<< (p1 &&& 31))) _ hS8) ?_
                refine pE_jump 1 (pc' := 53) (ls' := [some (.ref a), some (.int p0), some (.int p1), some (.int v3)]) (st' := [.ref a]) (fun _ => rfl) ?_
                obtain ⟨oq9, hq9, h⟩ := obind h
                cases oq9 with
                | none => cases h
                | some q9 =>
                  try dsimp only at h
                  refine pE_gfS rfl rfl hq9 ?_
                  refine pE_jump 1 (pc' := 57) (ls' := [some (.ref a), some (.int p0), some (.int p1), some (.int v3)]) (st' := [.ref a, .ref q9]) (fun _ => rfl) ?_
                  obtain ⟨v11, hv11, h⟩ := obind h
                  refine pE_gfI rfl rfl hv11 ?_
                  refine pE_jump 5 (pc' := 65) (ls' := [some (.ref a), some (.int p0), some (.int p1), some (.int v3)]) (st' := [.int ((p0 <<< (4 &&& 31)) ||| p1), .int v11, .ref q9]) (fun _ => rfl) ?_
                  obtain ⟨S12, hS12, h⟩ := obind h
                  refine pE_is (Bs := [.ref q9, .int v11, .int ((p0 <<< (4 &&& 31)) ||| p1)]) (st := []) rfl rfl rfl (Nat.le_of_ble_eq_true rfl) (Nat.le_of_ble_eq_true rfl) (f_BP_setAt sp d N S8 q9 v11 ((p0 <<< (4 &&& 31)) ||| p1) _ hS12) ?_
                  refine pE_jump 2 (pc' := 70) (ls' := [some (.ref a), some (.int p0), some (.int p1), some (.int v3)]) (st' := [.ref a, .ref a]) (fun _ => rfl) ?_
                  obtain ⟨v13, hv13, h⟩ := obind h
                  refine pE_gfI rfl rfl hv13 ?_
                  refine pE_jump 2 (pc' := 75) (ls' := [some (.ref a), some (.int p0), some (.int p1), some (.int v3)]) (st' := [.int (v13 + 1), .ref a]) (fun _ => rfl) ?_
                  obtain ⟨S14, hS14, h⟩ := obind h
                  refine pE_pf rfl rfl rfl hS14 ?_
                  refine pE_weak [none, none, none, none] trivial ?_
                  exact f_Tone_come_78 sp d N S14 _ h
def F_BP_cableOf (N : Nat) (S : pm_S) (p0 : Int32) : Option (Int32 × pm_S) :=
    some (p0 >>> (3 &&& 31), S)
set_option maxHeartbeats 4000000 in
set_option maxRecDepth 20000 in
theorem f_BP_cableOf (sp : pm_I → List Value → pm_S → pm_O → Prop) (d N : Nat) (S : pm_S) (p0 : Int32) (r : (Int32 × pm_S)) (h : F_BP_cableOf N S p0 = some r) : pm_rel pG sp (d + 1) mi_BP_cableOf [.int p0] S (some (.int r.1), r.2) := by
  unfold F_BP_cableOf at h
  refine pE_rel (d := d + 0) ?_
  show pmE pG _ mi_BP_cableOf 0 [some (.int p0)] [] S _
  refine pE_jump 3 (pc' := 3) (ls' := [some (.int p0)]) (st' := [.int (p0 >>> (3 &&& 31))]) (fun _ => rfl) ?_
  cases h
  exact pE_ret rfl rfl rfl
def F_Tone_comesTo_15_2 (N : Nat)  (x1 : Int32) (t0 : Nat) (S : pm_S) : Option (Int32 × pm_S) :=
    (F_BP_valueAt N S t0 x1).bind fun (v3, S2) =>
    some (v3, S2)
set_option maxHeartbeats 4000000 in
set_option maxRecDepth 20000 in
theorem f_Tone_comesTo_15_2 (sp : pm_I → List Value → pm_S → pm_O → Prop) (d N : Nat)  (x1 : Int32) (t0 : Nat) (S : pm_S)  (r : (Int32 × pm_S)) (h : F_Tone_comesTo_15_2 N  x1 t0 S = some r) : pmE pG (pm_rel pG sp (d + 1)) mi_Tone_comesTo 15 [none, some (.int x1), none] [.ref t0] S (some (.int r.1), r.2) := by
  unfold F_Tone_comesTo_15_2 at h
  refine pE_jump 1 (pc' := 16) (ls' := [none, some (.int x1), none]) (st' := [.int x1, .ref t0]) (fun _ => rfl) ?_
  obtain ⟨⟨v3, S2⟩, hv3, h⟩ := obind h
  try dsimp only at h
  refine pE_is (Bs := [.ref t0, .int x1]) (st := []) rfl rfl rfl (Nat.le_of_ble_eq_true rfl) (Nat.le_of_ble_eq_true rfl) (f_BP_valueAt sp d N S t0 x1 _ hv3) ?_
  cases h
  exact pE_ret rfl rfl rfl
def F_Tone_comesTo (N : Nat) (S : pm_S) (a : Nat) (p0 : Int32) (p1 : Int32) : Option (Int32 × pm_S) :=
    if rcv S a 8 = true then
    (if p1 = 0 then
    ((oR S a 8 2).bind fun oq1 => match oq1 with
    | none => none
    | some q1 =>
    F_Tone_comesTo_15_2 N p0 q1 S)
    else
    ((oR S a 8 3).bind fun oq4 => match oq4 with
    | none => none
    | some q4 =>
    F_Tone_comesTo_15_2 N p0 q4 S))
    else none
theorem g_Tone_comesTo {N : Nat} {S : pm_S} {a : Nat} {p0 : Int32} {p1 : Int32} {r : (Int32 × pm_S)} (h : F_Tone_comesTo N S a p0 p1 = some r) : rcv S a 8 = true := by
  unfold F_Tone_comesTo at h
  by_cases c : rcv S a 8 = true
  · exact c
  · rw [if_neg c] at h; cases h
set_option maxHeartbeats 4000000 in
set_option maxRecDepth 20000 in
theorem f_Tone_comesTo (sp : pm_I → List Value → pm_S → pm_O → Prop) (d N : Nat) (S : pm_S) (a : Nat) (p0 : Int32) (p1 : Int32) (r : (Int32 × pm_S)) (h : F_Tone_comesTo N S a p0 p1 = some r) : pm_rel pG sp (d + 2) mi_Tone_comesTo [.ref a, .int p0, .int p1] S (some (.int r.1), r.2) := by
  have hg := g_Tone_comesTo h
  unfold F_Tone_comesTo at h
  rw [if_pos hg] at h
  refine pE_rel (d := d + 1) ?_
  show pmE pG _ mi_Tone_comesTo 0 [some (.ref a), some (.int p0), some (.int p1)] [] S _
  refine pE_jump 1 (pc' := 1) (ls' := [some (.ref a), some (.int p0), some (.int p1)]) (st' := [.int p1]) (fun _ => rfl) ?_
  refine pE_br (¬ p1 = 0) rfl rfl (fun c5 => ?_) (fun c5 => ?_)
  · rw [if_neg c5] at h
    refine pE_jump 1 (pc' := 12) (ls' := [some (.ref a), some (.int p0), some (.int p1)]) (st' := [.ref a]) (fun _ => rfl) ?_
    obtain ⟨oq4, hq4, h⟩ := obind h
    cases oq4 with
    | none => cases h
    | some q4 =>
      try dsimp only at h
      refine pE_gfS rfl rfl hq4 ?_
      refine pE_weak [none, some (.int p0), none] ⟨rfl, trivial⟩ ?_
      exact f_Tone_comesTo_15_2 sp d N p0 q4 S _ h
  · have c5 := Decidable.not_not.mp c5
    rw [if_pos c5] at h
    refine pE_jump 1 (pc' := 5) (ls' := [some (.ref a), some (.int p0), some (.int p1)]) (st' := [.ref a]) (fun _ => rfl) ?_
    obtain ⟨oq1, hq1, h⟩ := obind h
    cases oq1 with
    | none => cases h
    | some q1 =>
      try dsimp only at h
      refine pE_gfS rfl rfl hq1 ?_
      refine pE_jump 1 (pc' := 15) (ls' := [some (.ref a), some (.int p0), some (.int p1)]) (st' := [.ref q1]) (fun _ => rfl) ?_
      refine pE_weak [none, some (.int p0), none] ⟨rfl, trivial⟩ ?_
      exact f_Tone_comesTo_15_2 sp d N p0 q1 S _ h
def F_BP_pairOf (N : Nat) (S : pm_S) (p0 : Int32) : Option (Int32 × pm_S) :=
    some (p0 &&& 7, S)
set_option maxHeartbeats 4000000 in
set_option maxRecDepth 20000 in
theorem f_BP_pairOf (sp : pm_I → List Value → pm_S → pm_O → Prop) (d N : Nat) (S : pm_S) (p0 : Int32) (r : (Int32 × pm_S)) (h : F_BP_pairOf N S p0 = some r) : pm_rel pG sp (d + 1) mi_BP_pairOf [.int p0] S (some (.int r.1), r.2) := by
  unfold F_BP_pairOf at h
  refine pE_rel (d := d + 0) ?_
  show pmE pG _ mi_BP_pairOf 0 [some (.int p0)] [] S _
  refine pE_jump 3 (pc' := 4) (ls' := [some (.int p0)]) (st' := [.int (p0 &&& 7)]) (fun _ => rfl) ?_
  cases h
  exact pE_ret rfl rfl rfl
def F_Wires_wireBehind (N : Nat) (S : pm_S) (a : Nat) (p0 : Int32) (p1 : Int32) : Option (Int32 × pm_S) :=
    if rcv S a 9 = true then
    (if p1 = 0 then
    ((oR S a 9 10).bind fun oq1 => match oq1 with
    | none => none
    | some q1 =>
    (oR S q1 1 0).bind fun oq2 => match oq2 with
    | none => none
    | some q2 =>
    (oR S a 9 1).bind fun oq6 => match oq6 with
    | none => none
    | some q6 =>
    (F_BP_valueAt N S q6 p0).bind fun (v8, S7) =>
    (F_BP_valueAt N S7 q2 v8).bind fun (v10, S9) =>
    some (v10, S9))
    else
    ((oR S a 9 2).bind fun oq11 => match oq11 with
    | none => none
    | some q11 =>
    (oR S a 9 10).bind fun oq16 => match oq16 with
    | none => none
    | some q16 =>
    (oR S q16 1 1).bind fun oq17 => match oq17 with
    | none => none
    | some q17 =>
    (F_BP_valueAt N S q17 p0).bind fun (v19, S18) =>
    (F_BP_valueAt N S18 q11 v19).bind fun (v21, S20) =>
    some (v21, S20)))
    else none
theorem g_Wires_wireBehind {N : Nat} {S : pm_S} {a : Nat} {p0 : Int32} {p1 : Int32} {r : (Int32 × pm_S)} (h : F_Wires_wireBehind N S a p0 p1 = some r) : rcv S a 9 = true := by
  unfold F_Wires_wireBehind at h
  by_cases c : rcv S a 9 = true
  · exact c
  · rw [if_neg c] at h; cases h
set_option maxHeartbeats 4000000 in
set_option maxRecDepth 20000 in
theorem f_Wires_wireBehind (sp : pm_I → List Value → pm_S → pm_O → Prop) (d N : Nat) (S : pm_S) (a : Nat) (p0 : Int32) (p1 : Int32) (r : (Int32 × pm_S)) (h : F_Wires_wireBehind N S a p0 p1 = some r) : pm_rel pG sp (d + 2) mi_Wires_wireBehind [.ref a, .int p0, .int p1] S (some (.int r.1), r.2) := by
  have hg := g_Wires_wireBehind h
  unfold F_Wires_wireBehind at h
  rw [if_pos hg] at h
  refine pE_rel (d := d + 1) ?_
  show pmE pG _ mi_Wires_wireBehind 0 [some (.ref a), some (.int p0), some (.int p1)] [] S _
  refine pE_jump 1 (pc' := 1) (ls' := [some (.ref a), some (.int p0), some (.int p1)]) (st' := [.int p1]) (fun _ => rfl) ?_
  refine pE_br (¬ p1 = 0) rfl rfl (fun c22 => ?_) (fun c22 => ?_)
  · rw [if_neg c22] at h
    refine pE_jump 1 (pc' := 24) (ls' := [some (.ref a), some (.int p0), some (.int p1)]) (st' := [.ref a]) (fun _ => rfl) ?_
    obtain ⟨oq11, hq11, h⟩ := obind h
    cases oq11 with
    | none => cases h
    | some q11 =>
      try dsimp only at h
      refine pE_gfS rfl rfl hq11 ?_
      refine pE_jump 1 (pc' := 28) (ls' := [some (.ref a), some (.int p0), some (.int p1)]) (st' := [.ref a, .ref q11]) (fun _ => rfl) ?_
      obtain ⟨oq16, hq16, h⟩ := obind h
      cases oq16 with
      | none => cases h
      | some q16 =>
        try dsimp only at h
        refine pE_gfS rfl rfl hq16 ?_
        obtain ⟨oq17, hq17, h⟩ := obind h
        cases oq17 with
        | none => cases h
        | some q17 =>
          try dsimp only at h
          refine pE_gfS rfl rfl hq17 ?_
          refine pE_jump 1 (pc' := 35) (ls' := [some (.ref a), some (.int p0), some (.int p1)]) (st' := [.int p0, .ref q17, .ref q11]) (fun _ => rfl) ?_
          obtain ⟨⟨v19, S18⟩, hv19, h⟩ := obind h
          try dsimp only at h
          refine pE_is (Bs := [.ref q17, .int p0]) (st := [.ref q11]) rfl rfl rfl (Nat.le_of_ble_eq_true rfl) (Nat.le_of_ble_eq_true rfl) (f_BP_valueAt sp d N S q17 p0 _ hv19) ?_
          obtain ⟨⟨v21, S20⟩, hv21, h⟩ := obind h
          try dsimp only at h
          refine pE_is (Bs := [.ref q11, .int v19]) (st := []) rfl rfl rfl (Nat.le_of_ble_eq_true rfl) (Nat.le_of_ble_eq_true rfl) (f_BP_valueAt sp d N S18 q11 v19 _ hv21) ?_
          cases h
          exact pE_ret rfl rfl rfl
  · have c22 := Decidable.not_not.mp c22
    rw [if_pos c22] at h
    refine pE_jump 1 (pc' := 5) (ls' := [some (.ref a), some (.int p0), some (.int p1)]) (st' := [.ref a]) (fun _ => rfl) ?_
    obtain ⟨oq1, hq1, h⟩ := obind h
    cases oq1 with
    | none => cases h
    | some q1 =>
      try dsimp only at h
      refine pE_gfS rfl rfl hq1 ?_
      obtain ⟨oq2, hq2, h⟩ := obind h
      cases oq2 with
      | none => cases h
      | some q2 =>
        try dsimp only at h
        refine pE_gfS rfl rfl hq2 ?_
        refine pE_jump 1 (pc' := 12) (ls' := [some (.ref a), some (.int p0), some (.int p1)]) (st' := [.ref a, .ref q2]) (fun _ => rfl) ?_
        obtain ⟨oq6, hq6, h⟩ := obind h
        cases oq6 with
        | none => cases h
        | some q6 =>
          try dsimp only at h
          refine pE_gfS rfl rfl hq6 ?_
          refine pE_jump 1 (pc' := 16) (ls' := [some (.ref a), some (.int p0), some (.int p1)]) (st' := [.int p0, .ref q6, .ref q2]) (fun _ => rfl) ?_
          obtain ⟨⟨v8, S7⟩, hv8, h⟩ := obind h
          try dsimp only at h
          refine pE_is (Bs := [.ref q6, .int p0]) (st := [.ref q2]) rfl rfl rfl (Nat.le_of_ble_eq_true rfl) (Nat.le_of_ble_eq_true rfl) (f_BP_valueAt sp d N S q6 p0 _ hv8) ?_
          obtain ⟨⟨v10, S9⟩, hv10, h⟩ := obind h
          try dsimp only at h
          refine pE_is (Bs := [.ref q2, .int v8]) (st := []) rfl rfl rfl (Nat.le_of_ble_eq_true rfl) (Nat.le_of_ble_eq_true rfl) (f_BP_valueAt sp d N S7 q2 v8 _ hv10) ?_
          cases h
          exact pE_ret rfl rfl rfl
def F_Tone_goAlong_109 (N : Nat)   (S : pm_S) : Option pm_S :=
    some S
set_option maxHeartbeats 4000000 in
set_option maxRecDepth 20000 in
theorem f_Tone_goAlong_109 (sp : pm_I → List Value → pm_S → pm_O → Prop) (d N : Nat)   (S : pm_S)  (r : pm_S) (h : F_Tone_goAlong_109 N   S = some r) : pmE pG (pm_rel pG sp (d + 2)) mi_Tone_goAlong 109 [none, none, none, none, none, none] [] S (none, r) := by
  unfold F_Tone_goAlong_109 at h
  cases h
  exact pE_ret rfl rfl rfl
def F_Tone_goAlong_54 (N : Nat)  (x0 : Nat) (x1 : Nat) (x2 : Int32) (x3 : Int32) (x4 : Int32) (S : pm_S) : Option pm_S :=
    (F_Wires_pieceAtEnd N S x1 x2 1).bind fun (v19, S18) =>
    if x3 = v19 then
    ((oR S18 x1 9 1).bind fun oq20 => match oq20 with
    | none => none
    | some q20 =>
    (F_BP_valueAt N S18 q20 x2).bind fun (v22, S21) =>
    (oR S21 x0 8 3).bind fun oq23 => match oq23 with
    | none => none
    | some q23 =>
    (F_Tone_comesTo N S21 x0 x4 1).bind fun (v29, S28) =>
    (F_BP_pairOf N S28 v22).bind fun (v31, S30) =>
    (F_BP_setAt N S30 q23 x4 (v29 ||| (1 <<< (v31 &&& 31)))).bind fun S32 =>
    (F_Wires_wireBehind N S32 x1 x2 0).bind fun (v34, S33) =>
    (F_Tone_come N S33 x0 v34 0).bind fun S35 =>
    F_Tone_goAlong_109 N S35)
    else
    F_Tone_goAlong_109 N S18
set_option maxHeartbeats 4000000 in
set_option maxRecDepth 20000 in
theorem f_Tone_goAlong_54 (sp : pm_I → List Value → pm_S → pm_O → Prop) (d N : Nat)  (x0 : Nat) (x1 : Nat) (x2 : Int32) (x3 : Int32) (x4 : Int32) (S : pm_S)  (r : pm_S) (h : F_Tone_goAlong_54 N  x0 x1 x2 x3 x4 S = some r) : pmE pG (pm_rel pG sp (d + 2)) mi_Tone_goAlong 54 [some (.ref x0), some (.ref x1), some (.int x2), some (.int x3), some (.int x4), none] [] S (none, r) := by
  unfold F_Tone_goAlong_54 at h
  refine pE_jump 4 (pc' := 58) (ls' := [some (.ref x0), some (.ref x1), some (.int x2), some (.int x3), some (.int x4), none]) (st' := [.int 1, .int x2, .ref x1, .int x3]) (fun _ => rfl) ?_
  obtain ⟨⟨v19, S18⟩, hv19, h⟩ := obind h
  try dsimp only at h
  refine pE_iv (Bs := [.int x2, .int 1]) (st := [.int x3]) 1 rfl (Or.inl ⟨rfl, rfl⟩) rfl rfl (Nat.le_of_ble_eq_true rfl) (Nat.le_of_ble_eq_true rfl) (g_Wires_pieceAtEnd hv19) (f_Wires_pieceAtEnd sp d N S x1 x2 1 _ hv19) ?_
  refine pE_br (¬ x3 = v19) rfl rfl (fun c36 => ?_) (fun c36 => ?_)
  · rw [if_neg c36] at h
    refine pE_weak [none, none, none, none, none, none] trivial ?_
    exact f_Tone_goAlong_109 sp d N S18 _ h
  · have c36 := Decidable.not_not.mp c36
    rw [if_pos c36] at h
    refine pE_jump 1 (pc' := 65) (ls' := [some (.ref x0), some (.ref x1), some (.int x2), some (.int x3), some (.int x4), none]) (st' := [.ref x1]) (fun _ => rfl) ?_
    obtain ⟨oq20, hq20, h⟩ := obind h
    cases oq20 with
    | none => cases h
    | some q20 =>
      try dsimp only at h
      refine pE_gfS rfl rfl hq20 ?_
      refine pE_jump 1 (pc' := 69) (ls' := [some (.ref x0), some (.ref x1), some (.int x2), some (.int x3), some (.int x4), none]) (st' := [.int x2, .ref q20]) (fun _ => rfl) ?_
      obtain ⟨⟨v22, S21⟩, hv22, h⟩ := obind h
      try dsimp only at h
      refine pE_is (Bs := [.ref q20, .int x2]) (st := []) rfl rfl rfl (Nat.le_of_ble_eq_true rfl) (Nat.le_of_ble_eq_true rfl) (f_BP_valueAt sp (d + 1) N S18 q20 x2 _ hv22) ?_
      refine pE_jump 2 (pc' := 75) (ls' := [some (.ref x0), some (.ref x1), some (.int x2), some (.int x3), some (.int x4), some (.int v22)]) (st' := [.ref x0]) (fun _ => rfl) ?_
      obtain ⟨oq23, hq23, h⟩ := obind h
      cases oq23 with
      | none => cases h
      | some q23 =>
        try dsimp only at h
        refine pE_gfS rfl rfl hq23 ?_
        refine pE_jump 4 (pc' := 84) (ls' := [some (.ref x0), some (.ref x1), some (.int x2), some (.int x3), some (.int x4), some (.int v22)]) (st' := [.int 1, .int x4, .ref x0, .int x4, .ref q23]) (fun _ => rfl) ?_
        obtain ⟨⟨v29, S28⟩, hv29, h⟩ := obind h
        try dsimp only at h
        refine pE_iv (Bs := [.int x4, .int 1]) (st := [.int x4, .ref q23]) 1 rfl (Or.inl ⟨rfl, rfl⟩) rfl rfl (Nat.le_of_ble_eq_true rfl) (Nat.le_of_ble_eq_true rfl) (g_Tone_comesTo hv29) (f_Tone_comesTo sp d N S21 x0 x4 1 _ hv29) ?_
        refine pE_jump 2 (pc' := 90) (ls' := [some (.ref x0), some (.ref x1), some (.int x2), some (.int x3), some (.int x4), some (.int v22)]) (st' := [.int v22, .int 1, .int v29, .int x4, .ref q23]) (fun _ => rfl) ?_
        obtain ⟨⟨v31, S30⟩, hv31, h⟩ := obind h
        try dsimp only at h
        refine pE_is (Bs := [.int v22]) (st := [.int 1, .int v29, .int x4, .ref q23]) rfl rfl rfl (Nat.le_of_ble_eq_true rfl) (Nat.le_of_ble_eq_true rfl) (f_BP_pairOf sp (d + 1) N S28 v22 _ hv31) ?_
        refine pE_jump 2 (pc' := 95) (ls' := [some (.ref x0), some (.ref x1), some (.int x2), some (.int x3), some (.int x4), some (.int v22)]) (st' := [.int (v29 ||| (1 <<< (v31 &&& 31))), .int x4, .ref q23]) (fun _ => rfl) ?_
        obtain ⟨S32, hS32, h⟩ := obind h
        refine pE_is (Bs := [.ref q23, .int x4, .int (v29 ||| (1 <<< (v31 &&& 31)))]) (st := []) rfl rfl rfl (Nat.le_of_ble_eq_true rfl) (Nat.le_of_ble_eq_true rfl) (f_BP_setAt sp (d + 1) N S30 q23 x4 (v29 ||| (1 <<< (v31 &&& 31))) _ hS32) ?_
        refine pE_jump 4 (pc' := 102) (ls' := [some (.ref x0), some (.ref x1), some (.int x2), some (.int x3), some (.int x4), some (.int v22)]) (st' := [.int 0, .int x2, .ref x1, .ref x0]) (fun _ => rfl) ?_
        obtain ⟨⟨v34, S33⟩, hv34, h⟩ := obind h
        try dsimp only at h
        refine pE_iv (Bs := [.int x2, .int 0]) (st := [.ref x0]) 1 rfl (Or.inl ⟨rfl, rfl⟩) rfl rfl (Nat.le_of_ble_eq_true rfl) (Nat.le_of_ble_eq_true rfl) (g_Wires_wireBehind hv34) (f_Wires_wireBehind sp d N S32 x1 x2 0 _ hv34) ?_
        refine pE_jump 1 (pc' := 106) (ls' := [some (.ref x0), some (.ref x1), some (.int x2), some (.int x3), some (.int x4), some (.int v22)]) (st' := [.int 0, .int v34, .ref x0]) (fun _ => rfl) ?_
        obtain ⟨S35, hS35, h⟩ := obind h
        refine pE_iv (Bs := [.int v34, .int 0]) (st := []) 1 rfl (Or.inl ⟨rfl, rfl⟩) rfl rfl (Nat.le_of_ble_eq_true rfl) (Nat.le_of_ble_eq_true rfl) (g_Tone_come hS35) (f_Tone_come sp d N S33 x0 v34 0 _ hS35) ?_
        refine pE_weak [none, none, none, none, none, none] trivial ?_
        exact f_Tone_goAlong_109 sp d N S35 _ h
def F_Tone_goAlong (N : Nat) (S : pm_S) (a : Nat) (p0 : Nat) (p1 : Int32) (p2 : Int32) : Option pm_S :=
    if rcv S a 8 = true then
    ((F_BP_cableOf N S p1).bind fun (v2, S1) =>
    if p2 = 0 then
    ((oR S1 a 8 2).bind fun oq3 => match oq3 with
    | none => none
    | some q3 =>
    (F_Tone_comesTo N S1 a v2 0).bind fun (v9, S8) =>
    (F_BP_pairOf N S8 p1).bind fun (v11, S10) =>
    (F_BP_setAt N S10 q3 v2 (v9 ||| (1 <<< (v11 &&& 31)))).bind fun S12 =>
    (F_Wires_wireBehind N S12 p0 p1 1).bind fun (v14, S13) =>
    (F_Wires_pieceAtEnd N S13 p0 v14 1).bind fun (v16, S15) =>
    (F_Tone_come N S15 a v14 v16).bind fun S17 =>
    F_Tone_goAlong_54 N a p0 p1 p2 v2 S17)
    else
    F_Tone_goAlong_54 N a p0 p1 p2 v2 S1)
    else none
theorem g_Tone_goAlong {N : Nat} {S : pm_S} {a : Nat} {p0 : Nat} {p1 : Int32} {p2 : Int32} {r : pm_S} (h : F_Tone_goAlong N S a p0 p1 p2 = some r) : rcv S a 8 = true := by
  unfold F_Tone_goAlong at h
  by_cases c : rcv S a 8 = true
  · exact c
  · rw [if_neg c] at h; cases h
set_option maxHeartbeats 4000000 in
set_option maxRecDepth 20000 in
theorem f_Tone_goAlong (sp : pm_I → List Value → pm_S → pm_O → Prop) (d N : Nat) (S : pm_S) (a : Nat) (p0 : Nat) (p1 : Int32) (p2 : Int32) (r : pm_S) (h : F_Tone_goAlong N S a p0 p1 p2 = some r) : pm_rel pG sp (d + 3) mi_Tone_goAlong [.ref a, .ref p0, .int p1, .int p2] S (none, r) := by
  have hg := g_Tone_goAlong h
  unfold F_Tone_goAlong at h
  rw [if_pos hg] at h
  refine pE_rel (d := d + 2) ?_
  show pmE pG _ mi_Tone_goAlong 0 [some (.ref a), some (.ref p0), some (.int p1), some (.int p2), none, none] [] S _
  refine pE_jump 1 (pc' := 1) (ls' := [some (.ref a), some (.ref p0), some (.int p1), some (.int p2), none, none]) (st' := [.int p1]) (fun _ => rfl) ?_
  obtain ⟨⟨v2, S1⟩, hv2, h⟩ := obind h
  try dsimp only at h
  refine pE_is (Bs := [.int p1]) (st := []) rfl rfl rfl (Nat.le_of_ble_eq_true rfl) (Nat.le_of_ble_eq_true rfl) (f_BP_cableOf sp (d + 1) N S p1 _ hv2) ?_
  refine pE_jump 2 (pc' := 7) (ls' := [some (.ref a), some (.ref p0), some (.int p1), some (.int p2), some (.int v2), none]) (st' := [.int p2]) (fun _ => rfl) ?_
  refine pE_br (¬ p2 = 0) rfl rfl (fun c37 => ?_) (fun c37 => ?_)
  · rw [if_neg c37] at h
    exact f_Tone_goAlong_54 sp d N a p0 p1 p2 v2 S1 _ h
  · have c37 := Decidable.not_not.mp c37
    rw [if_pos c37] at h
    refine pE_jump 1 (pc' := 11) (ls' := [some (.ref a), some (.ref p0), some (.int p1), some (.int p2), some (.int v2), none]) (st' := [.ref a]) (fun _ => rfl) ?_
    obtain ⟨oq3, hq3, h⟩ := obind h
    cases oq3 with
    | none => cases h
    | some q3 =>
      try dsimp only at h
      refine pE_gfS rfl rfl hq3 ?_
      refine pE_jump 4 (pc' := 20) (ls' := [some (.ref a), some (.ref p0), some (.int p1), some (.int p2), some (.int v2), none]) (st' := [.int 0, .int v2, .ref a, .int v2, .ref q3]) (fun _ => rfl) ?_
      obtain ⟨⟨v9, S8⟩, hv9, h⟩ := obind h
      try dsimp only at h
      refine pE_iv (Bs := [.int v2, .int 0]) (st := [.int v2, .ref q3]) 1 rfl (Or.inl ⟨rfl, rfl⟩) rfl rfl (Nat.le_of_ble_eq_true rfl) (Nat.le_of_ble_eq_true rfl) (g_Tone_comesTo hv9) (f_Tone_comesTo sp d N S1 a v2 0 _ hv9) ?_
      refine pE_jump 2 (pc' := 25) (ls' := [some (.ref a), some (.ref p0), some (.int p1), some (.int p2), some (.int v2), none]) (st' := [.int p1, .int 1, .int v9, .int v2, .ref q3]) (fun _ => rfl) ?_
      obtain ⟨⟨v11, S10⟩, hv11, h⟩ := obind h
      try dsimp only at h
      refine pE_is (Bs := [.int p1]) (st := [.int 1, .int v9, .int v2, .ref q3]) rfl rfl rfl (Nat.le_of_ble_eq_true rfl) (Nat.le_of_ble_eq_true rfl) (f_BP_pairOf sp (d + 1) N S8 p1 _ hv11) ?_
      refine pE_jump 2 (pc' := 30) (ls' := [some (.ref a), some (.ref p0), some (.int p1), some (.int p2), some (.int v2), none]) (st' := [.int (v9 ||| (1 <<< (v11 &&& 31))), .int v2, .ref q3]) (fun _ => rfl) ?_
      obtain ⟨S12, hS12, h⟩ := obind h
      refine pE_is (Bs := [.ref q3, .int v2, .int (v9 ||| (1 <<< (v11 &&& 31)))]) (st := []) rfl rfl rfl (Nat.le_of_ble_eq_true rfl) (Nat.le_of_ble_eq_true rfl) (f_BP_setAt sp (d + 1) N S10 q3 v2 (v9 ||| (1 <<< (v11 &&& 31))) _ hS12) ?_
      refine pE_jump 3 (pc' := 36) (ls' := [some (.ref a), some (.ref p0), some (.int p1), some (.int p2), some (.int v2), none]) (st' := [.int 1, .int p1, .ref p0]) (fun _ => rfl) ?_
      obtain ⟨⟨v14, S13⟩, hv14, h⟩ := obind h
      try dsimp only at h
      refine pE_iv (Bs := [.int p1, .int 1]) (st := []) 1 rfl (Or.inl ⟨rfl, rfl⟩) rfl rfl (Nat.le_of_ble_eq_true rfl) (Nat.le_of_ble_eq_true rfl) (g_Wires_wireBehind hv14) (f_Wires_wireBehind sp d N S12 p0 p1 1 _ hv14) ?_
      refine pE_jump 6 (pc' := 48) (ls' := [some (.ref a), some (.ref p0), some (.int p1), some (.int p2), some (.int v2), some (.int v14)]) (st' := [.int 1, .int v14, .ref p0, .int v14, .ref a]) (fun _ => rfl) ?_
      obtain ⟨⟨v16, S15⟩, hv16, h⟩ := obind h
      try dsimp only at h
      refine pE_iv (Bs := [.int v14, .int 1]) (st := [.int v14, .ref a]) 1 rfl (Or.inl ⟨rfl, rfl⟩) rfl rfl (Nat.le_of_ble_eq_true rfl) (Nat.le_of_ble_eq_true rfl) (g_Wires_pieceAtEnd hv16) (f_Wires_pieceAtEnd sp d N S13 p0 v14 1 _ hv16) ?_
      obtain ⟨S17, hS17, h⟩ := obind h
      refine pE_iv (Bs := [.int v14, .int v16]) (st := []) 1 rfl (Or.inl ⟨rfl, rfl⟩) rfl rfl (Nat.le_of_ble_eq_true rfl) (Nat.le_of_ble_eq_true rfl) (g_Tone_come hS17) (f_Tone_come sp d N S15 a v14 v16 _ hS17) ?_
      refine pE_weak [some (.ref a), some (.ref p0), some (.int p1), some (.int p2), some (.int v2), none] ⟨rfl, ⟨rfl, ⟨rfl, ⟨rfl, ⟨rfl, trivial⟩⟩⟩⟩⟩ ?_
      exact f_Tone_goAlong_54 sp d N a p0 p1 p2 v2 S17 _ h
def F_Wires_pieceAt_49 (N : Nat)  (x3 : Int32) (S : pm_S) : Option (Int32 × pm_S) :=
    some (x3, S)
set_option maxHeartbeats 4000000 in
set_option maxRecDepth 20000 in
theorem f_Wires_pieceAt_49 (sp : pm_I → List Value → pm_S → pm_O → Prop) (d N : Nat)  (x3 : Int32) (S : pm_S)  (r : (Int32 × pm_S)) (h : F_Wires_pieceAt_49 N  x3 S = some r) : pmE pG (pm_rel pG sp (d + 1)) mi_Wires_pieceAt 49 [none, none, none, some (.int x3), none] [] S (some (.int r.1), r.2) := by
  unfold F_Wires_pieceAt_49 at h
  refine pE_jump 1 (pc' := 50) (ls' := [none, none, none, some (.int x3), none]) (st' := [.int x3]) (fun _ => rfl) ?_
  cases h
  exact pE_ret rfl rfl rfl
def F_Wires_pieceAt_43 (N : Nat) (rec5 : Int32 → Int32 → pm_S → Option (Int32 × pm_S)) (x0 : Nat) (x1 : Int32) (x2 : Int32) (x3 : Int32) (x4 : Int32) (S : pm_S) : Option (Int32 × pm_S) :=
    rec5 x3 (x4 + 1) S
set_option maxHeartbeats 4000000 in
set_option maxRecDepth 20000 in
theorem f_Wires_pieceAt_43 (sp : pm_I → List Value → pm_S → pm_O → Prop) (d N : Nat) (rec5 : Int32 → Int32 → pm_S → Option (Int32 × pm_S)) (x0 : Nat) (x1 : Int32) (x2 : Int32) (x3 : Int32) (x4 : Int32) (S : pm_S) (hrec5 : ∀ (y1 : Int32) (y2 : Int32) (U : pm_S) (r : (Int32 × pm_S)), rec5 y1 y2 U = some r → pmE pG (pm_rel pG sp (d + 1)) mi_Wires_pieceAt 5 [some (.ref x0), some (.int x1), some (.int x2), some (.int y1), some (.int y2)] [] U (some (.int r.1), r.2)) (r : (Int32 × pm_S)) (h : F_Wires_pieceAt_43 N rec5 x0 x1 x2 x3 x4 S = some r) : pmE pG (pm_rel pG sp (d + 1)) mi_Wires_pieceAt 43 [some (.ref x0), some (.int x1), some (.int x2), some (.int x3), some (.int x4)] [] S (some (.int r.1), r.2) := by
  unfold F_Wires_pieceAt_43 at h
  refine pE_jump 2 (pc' := 5) (ls' := [some (.ref x0), some (.int x1), some (.int x2), some (.int x3), some (.int (x4 + 1))]) (st' := []) (fun _ => rfl) ?_
  exact hrec5 x3 (x4 + 1) S _ h
def B_Wires_pieceAt_5 (N : Nat)  (rec5 : Int32 → Int32 → pm_S → Option (Int32 × pm_S)) (x0 : Nat) (x1 : Int32) (x2 : Int32) (x3 : Int32) (x4 : Int32) (S : pm_S) : Option (Int32 × pm_S) :=
    (oI S x0 9 11).bind fun v1 =>
    if v1 ≤ x4 then
    F_Wires_pieceAt_49 N x3 S
    else
    ((oR S x0 9 4).bind fun oq2 => match oq2 with
    | none => none
    | some q2 =>
    (F_BP_valueAt N S q2 x4).bind fun (v4, S3) =>
    if v4 = x1 then
    ((oR S3 x0 9 5).bind fun oq5 => match oq5 with
    | none => none
    | some q5 =>
    (F_BP_valueAt N S3 q5 x4).bind fun (v7, S6) =>
    if x2 < v7 then
    F_Wires_pieceAt_43 N rec5 x0 x1 x2 x3 x4 S6
    else
    F_Wires_pieceAt_43 N rec5 x0 x1 x2 (x3 + 1) x4 S6)
    else
    F_Wires_pieceAt_43 N rec5 x0 x1 x2 x3 x4 S3)
def F_Wires_pieceAt_5 (N : Nat)  (x0 : Nat) (x1 : Int32) (x2 : Int32) : Nat → Int32 → Int32 → pm_S → Option (Int32 × pm_S)
  | 0 => fun _ _ _ => none
  | n + 1 => fun x3 x4 S => B_Wires_pieceAt_5 N  (F_Wires_pieceAt_5 N  x0 x1 x2 n) x0 x1 x2 x3 x4 S
set_option maxHeartbeats 4000000 in
set_option maxRecDepth 20000 in
theorem f_Wires_pieceAt_5 (sp : pm_I → List Value → pm_S → pm_O → Prop) (d N : Nat)  (x0 : Nat) (x1 : Int32) (x2 : Int32)  : ∀ (n : Nat) (x3 : Int32) (x4 : Int32) (S : pm_S) (r : (Int32 × pm_S)), F_Wires_pieceAt_5 N  x0 x1 x2 n x3 x4 S = some r → pmE pG (pm_rel pG sp (d + 1)) mi_Wires_pieceAt 5 [some (.ref x0), some (.int x1), some (.int x2), some (.int x3), some (.int x4)] [] S (some (.int r.1), r.2) := by
  intro n
  induction n with
  | zero =>
    intro x3 x4 S r h
    cases h
  | succ n ih =>
    intro x3 x4 S r h
    replace h : B_Wires_pieceAt_5 N  (F_Wires_pieceAt_5 N  x0 x1 x2 n) x0 x1 x2 x3 x4 S = some r := h
    have hrec5 := ih
    generalize F_Wires_pieceAt_5 N  x0 x1 x2 n = rec5 at h hrec5
    unfold B_Wires_pieceAt_5 at h
    refine pE_jump 2 (pc' := 8) (ls' := [some (.ref x0), some (.int x1), some (.int x2), some (.int x3), some (.int x4)]) (st' := [.ref x0, .int x4]) (fun _ => rfl) ?_
    obtain ⟨v1, hv1, h⟩ := obind h
    refine pE_gfI rfl rfl hv1 ?_
    refine pE_br (v1 ≤ x4) rfl rfl (fun c10 => ?_) (fun c10 => ?_)
    · rw [if_pos c10] at h
      refine pE_weak [none, none, none, some (.int x3), none] ⟨rfl, trivial⟩ ?_
      exact f_Wires_pieceAt_49 sp d N x3 S _ h
    · rw [if_neg c10] at h
      refine pE_jump 1 (pc' := 15) (ls' := [some (.ref x0), some (.int x1), some (.int x2), some (.int x3), some (.int x4)]) (st' := [.ref x0]) (fun _ => rfl) ?_
      obtain ⟨oq2, hq2, h⟩ := obind h
      cases oq2 with
      | none => cases h
      | some q2 =>
        try dsimp only at h
        refine pE_gfS rfl rfl hq2 ?_
        refine pE_jump 1 (pc' := 20) (ls' := [some (.ref x0), some (.int x1), some (.int x2), some (.int x3), some (.int x4)]) (st' := [.int x4, .ref q2]) (fun _ => rfl) ?_
        obtain ⟨⟨v4, S3⟩, hv4, h⟩ := obind h
        try dsimp only at h
        refine pE_is (Bs := [.ref q2, .int x4]) (st := []) rfl rfl rfl (Nat.le_of_ble_eq_true rfl) (Nat.le_of_ble_eq_true rfl) (f_BP_valueAt sp d N S q2 x4 _ hv4) ?_
        refine pE_jump 1 (pc' := 24) (ls' := [some (.ref x0), some (.int x1), some (.int x2), some (.int x3), some (.int x4)]) (st' := [.int x1, .int v4]) (fun _ => rfl) ?_
        refine pE_br (¬ v4 = x1) rfl rfl (fun c9 => ?_) (fun c9 => ?_)
        · rw [if_neg c9] at h
          exact f_Wires_pieceAt_43 sp d N rec5 x0 x1 x2 x3 x4 S3 hrec5 _ h
        · have c9 := Decidable.not_not.mp c9
          rw [if_pos c9] at h
          refine pE_jump 1 (pc' := 28) (ls' := [some (.ref x0), some (.int x1), some (.int x2), some (.int x3), some (.int x4)]) (st' := [.ref x0]) (fun _ => rfl) ?_
          obtain ⟨oq5, hq5, h⟩ := obind h
          cases oq5 with
          | none => cases h
          | some q5 =>
            try dsimp only at h
            refine pE_gfS rfl rfl hq5 ?_
            refine pE_jump 1 (pc' := 33) (ls' := [some (.ref x0), some (.int x1), some (.int x2), some (.int x3), some (.int x4)]) (st' := [.int x4, .ref q5]) (fun _ => rfl) ?_
            obtain ⟨⟨v7, S6⟩, hv7, h⟩ := obind h
            try dsimp only at h
            refine pE_is (Bs := [.ref q5, .int x4]) (st := []) rfl rfl rfl (Nat.le_of_ble_eq_true rfl) (Nat.le_of_ble_eq_true rfl) (f_BP_valueAt sp d N S3 q5 x4 _ hv7) ?_
            refine pE_jump 1 (pc' := 37) (ls' := [some (.ref x0), some (.int x1), some (.int x2), some (.int x3), some (.int x4)]) (st' := [.int x2, .int v7]) (fun _ => rfl) ?_
            refine pE_br (x2 < v7) rfl rfl (fun c8 => ?_) (fun c8 => ?_)
            · rw [if_pos c8] at h
              exact f_Wires_pieceAt_43 sp d N rec5 x0 x1 x2 x3 x4 S6 hrec5 _ h
            · rw [if_neg c8] at h
              refine pE_jump 1 (pc' := 43) (ls' := [some (.ref x0), some (.int x1), some (.int x2), some (.int (x3 + 1)), some (.int x4)]) (st' := []) (fun _ => rfl) ?_
              exact f_Wires_pieceAt_43 sp d N rec5 x0 x1 x2 (x3 + 1) x4 S6 hrec5 _ h
def F_Wires_pieceAt (N : Nat) (S : pm_S) (a : Nat) (p0 : Int32) (p1 : Int32) : Option (Int32 × pm_S) :=
    if rcv S a 9 = true then
    (F_Wires_pieceAt_5 N a p0 p1 N 0 0 S)
    else none
theorem g_Wires_pieceAt {N : Nat} {S : pm_S} {a : Nat} {p0 : Int32} {p1 : Int32} {r : (Int32 × pm_S)} (h : F_Wires_pieceAt N S a p0 p1 = some r) : rcv S a 9 = true := by
  unfold F_Wires_pieceAt at h
  by_cases c : rcv S a 9 = true
  · exact c
  · rw [if_neg c] at h; cases h
set_option maxHeartbeats 4000000 in
set_option maxRecDepth 20000 in
theorem f_Wires_pieceAt (sp : pm_I → List Value → pm_S → pm_O → Prop) (d N : Nat) (S : pm_S) (a : Nat) (p0 : Int32) (p1 : Int32) (r : (Int32 × pm_S)) (h : F_Wires_pieceAt N S a p0 p1 = some r) : pm_rel pG sp (d + 2) mi_Wires_pieceAt [.ref a, .int p0, .int p1] S (some (.int r.1), r.2) := by
  have hg := g_Wires_pieceAt h
  unfold F_Wires_pieceAt at h
  rw [if_pos hg] at h
  refine pE_rel (d := d + 1) ?_
  show pmE pG _ mi_Wires_pieceAt 0 [some (.ref a), some (.int p0), some (.int p1), none, none] [] S _
  refine pE_jump 4 (pc' := 5) (ls' := [some (.ref a), some (.int p0), some (.int p1), some (.int 0), some (.int 0)]) (st' := []) (fun _ => rfl) ?_
  exact f_Wires_pieceAt_5 sp d N a p0 p1 N 0 0 S _ h
def F_Tone_goAcross_115 (N : Nat)   (S : pm_S) : Option pm_S :=
    some S
set_option maxHeartbeats 4000000 in
set_option maxRecDepth 20000 in
theorem f_Tone_goAcross_115 (sp : pm_I → List Value → pm_S → pm_O → Prop) (d N : Nat)   (S : pm_S)  (r : pm_S) (h : F_Tone_goAcross_115 N   S = some r) : pmE pG (pm_rel pG sp (d + 2)) mi_Tone_goAcross 115 [none, none, none, none, none, none, none, none] [] S (none, r) := by
  unfold F_Tone_goAcross_115 at h
  cases h
  exact pE_ret rfl rfl rfl
def F_Tone_goAcross_109 (N : Nat) (rec3 : Int32 → pm_S → Option pm_S) (x0 : Nat) (x1 : Nat) (x2 : Int32) (x3 : Int32) (x4 : Int32) (S : pm_S) : Option pm_S :=
    rec3 (x4 + 1) S
set_option maxHeartbeats 4000000 in
set_option maxRecDepth 20000 in
theorem f_Tone_goAcross_109 (sp : pm_I → List Value → pm_S → pm_O → Prop) (d N : Nat) (rec3 : Int32 → pm_S → Option pm_S) (x0 : Nat) (x1 : Nat) (x2 : Int32) (x3 : Int32) (x4 : Int32) (S : pm_S) (hrec3 : ∀ (y1 : Int32) (U : pm_S) (r : pm_S), rec3 y1 U = some r → pmE pG (pm_rel pG sp (d + 2)) mi_Tone_goAcross 3 [some (.ref x0), some (.ref x1), some (.int x2), some (.int x3), some (.int y1), none, none, none] [] U (none, r)) (r : pm_S) (h : F_Tone_goAcross_109 N rec3 x0 x1 x2 x3 x4 S = some r) : pmE pG (pm_rel pG sp (d + 2)) mi_Tone_goAcross 109 [some (.ref x0), some (.ref x1), some (.int x2), some (.int x3), some (.int x4), none, none, none] [] S (none, r) := by
  unfold F_Tone_goAcross_109 at h
  refine pE_jump 2 (pc' := 3) (ls' := [some (.ref x0), some (.ref x1), some (.int x2), some (.int x3), some (.int (x4 + 1)), none, none, none]) (st' := []) (fun _ => rfl) ?_
  exact hrec3 (x4 + 1) S _ h
def F_Tone_goAcross_77 (N : Nat) (rec3 : Int32 → pm_S → Option pm_S) (x0 : Nat) (x1 : Nat) (x2 : Int32) (x3 : Int32) (x4 : Int32) (x5 : Int32) (x6 : Int32) (x7 : Int32) (S : pm_S) : Option pm_S :=
    if x6 = x2 then
    ((F_Wires_pieceAt N S x1 x6 x7).bind fun (v17, S16) =>
    if v17 = x3 then
    ((F_Wires_pieceAt N S16 x1 x5 x7).bind fun (v19, S18) =>
    (F_Tone_come N S18 x0 x5 v19).bind fun S20 =>
    F_Tone_goAcross_109 N rec3 x0 x1 x2 x3 x4 S20)
    else
    F_Tone_goAcross_109 N rec3 x0 x1 x2 x3 x4 S16)
    else
    F_Tone_goAcross_109 N rec3 x0 x1 x2 x3 x4 S
set_option maxHeartbeats 4000000 in
set_option maxRecDepth 20000 in
theorem f_Tone_goAcross_77 (sp : pm_I → List Value → pm_S → pm_O → Prop) (d N : Nat) (rec3 : Int32 → pm_S → Option pm_S) (x0 : Nat) (x1 : Nat) (x2 : Int32) (x3 : Int32) (x4 : Int32) (x5 : Int32) (x6 : Int32) (x7 : Int32) (S : pm_S) (hrec3 : ∀ (y1 : Int32) (U : pm_S) (r : pm_S), rec3 y1 U = some r → pmE pG (pm_rel pG sp (d + 2)) mi_Tone_goAcross 3 [some (.ref x0), some (.ref x1), some (.int x2), some (.int x3), some (.int y1), none, none, none] [] U (none, r)) (r : pm_S) (h : F_Tone_goAcross_77 N rec3 x0 x1 x2 x3 x4 x5 x6 x7 S = some r) : pmE pG (pm_rel pG sp (d + 2)) mi_Tone_goAcross 77 [some (.ref x0), some (.ref x1), some (.int x2), some (.int x3), some (.int x4), some (.int x5), some (.int x6), some (.int x7)] [] S (none, r) := by
  unfold F_Tone_goAcross_77 at h
  refine pE_jump 2 (pc' := 80) (ls' := [some (.ref x0), some (.ref x1), some (.int x2), some (.int x3), some (.int x4), some (.int x5), some (.int x6), some (.int x7)]) (st' := [.int x2, .int x6]) (fun _ => rfl) ?_
  refine pE_br (¬ x6 = x2) rfl rfl (fun c22 => ?_) (fun c22 => ?_)
  · rw [if_neg c22] at h
    refine pE_weak [some (.ref x0), some (.ref x1), some (.int x2), some (.int x3), some (.int x4), none, none, none] ⟨rfl, ⟨rfl, ⟨rfl, ⟨rfl, ⟨rfl, trivial⟩⟩⟩⟩⟩ ?_
    exact f_Tone_goAcross_109 sp d N rec3 x0 x1 x2 x3 x4 S hrec3 _ h
  · have c22 := Decidable.not_not.mp c22
    rw [if_pos c22] at h
    refine pE_jump 3 (pc' := 88) (ls' := [some (.ref x0), some (.ref x1), some (.int x2), some (.int x3), some (.int x4), some (.int x5), some (.int x6), some (.int x7)]) (st' := [.int x7, .int x6, .ref x1]) (fun _ => rfl) ?_
    obtain ⟨⟨v17, S16⟩, hv17, h⟩ := obind h
    try dsimp only at h
    refine pE_iv (Bs := [.int x6, .int x7]) (st := []) 1 rfl (Or.inl ⟨rfl, rfl⟩) rfl rfl (Nat.le_of_ble_eq_true rfl) (Nat.le_of_ble_eq_true rfl) (g_Wires_pieceAt hv17) (f_Wires_pieceAt sp d N S x1 x6 x7 _ hv17) ?_
    refine pE_jump 1 (pc' := 92) (ls' := [some (.ref x0), some (.ref x1), some (.int x2), some (.int x3), some (.int x4), some (.int x5), some (.int x6), some (.int x7)]) (st' := [.int x3, .int v17]) (fun _ => rfl) ?_
    refine pE_br (¬ v17 = x3) rfl rfl (fun c21 => ?_) (fun c21 => ?_)
    · rw [if_neg c21] at h
      refine pE_weak [some (.ref x0), some (.ref x1), some (.int x2), some (.int x3), some (.int x4), none, none, none] ⟨rfl, ⟨rfl, ⟨rfl, ⟨rfl, ⟨rfl, trivial⟩⟩⟩⟩⟩ ?_
      exact f_Tone_goAcross_109 sp d N rec3 x0 x1 x2 x3 x4 S16 hrec3 _ h
    · have c21 := Decidable.not_not.mp c21
      rw [if_pos c21] at h
      refine pE_jump 5 (pc' := 103) (ls' := [some (.ref x0), some (.ref x1), some (.int x2), some (.int x3), some (.int x4), some (.int x5), some (.int x6), some (.int x7)]) (st' := [.int x7, .int x5, .ref x1, .int x5, .ref x0]) (fun _ => rfl) ?_
      obtain ⟨⟨v19, S18⟩, hv19, h⟩ := obind h
      try dsimp only at h
      refine pE_iv (Bs := [.int x5, .int x7]) (st := [.int x5, .ref x0]) 1 rfl (Or.inl ⟨rfl, rfl⟩) rfl rfl (Nat.le_of_ble_eq_true rfl) (Nat.le_of_ble_eq_true rfl) (g_Wires_pieceAt hv19) (f_Wires_pieceAt sp d N S16 x1 x5 x7 _ hv19) ?_
      obtain ⟨S20, hS20, h⟩ := obind h
      refine pE_iv (Bs := [.int x5, .int v19]) (st := []) 1 rfl (Or.inl ⟨rfl, rfl⟩) rfl rfl (Nat.le_of_ble_eq_true rfl) (Nat.le_of_ble_eq_true rfl) (g_Tone_come hS20) (f_Tone_come sp d N S18 x0 x5 v19 _ hS20) ?_
      refine pE_weak [some (.ref x0), some (.ref x1), some (.int x2), some (.int x3), some (.int x4), none, none, none] ⟨rfl, ⟨rfl, ⟨rfl, ⟨rfl, ⟨rfl, trivial⟩⟩⟩⟩⟩ ?_
      exact f_Tone_goAcross_109 sp d N rec3 x0 x1 x2 x3 x4 S20 hrec3 _ h
def B_Tone_goAcross_3 (N : Nat)  (rec3 : Int32 → pm_S → Option pm_S) (x0 : Nat) (x1 : Nat) (x2 : Int32) (x3 : Int32) (x4 : Int32) (S : pm_S) : Option pm_S :=
    (oI S x1 9 12).bind fun v1 =>
    if v1 ≤ x4 then
    F_Tone_goAcross_115 N S
    else
    ((oR S x1 9 6).bind fun oq2 => match oq2 with
    | none => none
    | some q2 =>
    (F_BP_valueAt N S q2 x4).bind fun (v4, S3) =>
    (oR S3 x1 9 7).bind fun oq5 => match oq5 with
    | none => none
    | some q5 =>
    (F_BP_valueAt N S3 q5 x4).bind fun (v7, S6) =>
    (oR S6 x1 9 8).bind fun oq8 => match oq8 with
    | none => none
    | some q8 =>
    (F_BP_valueAt N S6 q8 x4).bind fun (v10, S9) =>
    if v4 = x2 then
    ((F_Wires_pieceAt N S9 x1 v4 v10).bind fun (v12, S11) =>
    if v12 = x3 then
    ((F_Wires_pieceAt N S11 x1 v7 v10).bind fun (v14, S13) =>
    (F_Tone_come N S13 x0 v7 v14).bind fun S15 =>
    F_Tone_goAcross_77 N rec3 x0 x1 x2 x3 x4 v4 v7 v10 S15)
    else
    F_Tone_goAcross_77 N rec3 x0 x1 x2 x3 x4 v4 v7 v10 S11)
    else
    F_Tone_goAcross_77 N rec3 x0 x1 x2 x3 x4 v4 v7 v10 S9)
def F_Tone_goAcross_3 (N : Nat)  (x0 : Nat) (x1 : Nat) (x2 : Int32) (x3 : Int32) : Nat → Int32 → pm_S → Option pm_S
  | 0 => fun _ _ => none
  | n + 1 => fun x4 S => B_Tone_goAcross_3 N  (F_Tone_goAcross_3 N  x0 x1 x2 x3 n) x0 x1 x2 x3 x4 S
set_option maxHeartbeats 4000000 in
set_option maxRecDepth 20000 in
theorem f_Tone_goAcross_3 (sp : pm_I → List Value → pm_S → pm_O → Prop) (d N : Nat)  (x0 : Nat) (x1 : Nat) (x2 : Int32) (x3 : Int32)  : ∀ (n : Nat) (x4 : Int32) (S : pm_S) (r : pm_S), F_Tone_goAcross_3 N  x0 x1 x2 x3 n x4 S = some r → pmE pG (pm_rel pG sp (d + 2)) mi_Tone_goAcross 3 [some (.ref x0), some (.ref x1), some (.int x2), some (.int x3), some (.int x4), none, none, none] [] S (none, r) := by
  intro n
  induction n with
  | zero =>
    intro x4 S r h
    cases h
  | succ n ih =>
    intro x4 S r h
    replace h : B_Tone_goAcross_3 N  (F_Tone_goAcross_3 N  x0 x1 x2 x3 n) x0 x1 x2 x3 x4 S = some r := h
    have hrec3 := ih
    generalize F_Tone_goAcross_3 N  x0 x1 x2 x3 n = rec3 at h hrec3
    unfold B_Tone_goAcross_3 at h
    refine pE_jump 2 (pc' := 6) (ls' := [some (.ref x0), some (.ref x1), some (.int x2), some (.int x3), some (.int x4), none, none, none]) (st' := [.ref x1, .int x4]) (fun _ => rfl) ?_
    obtain ⟨v1, hv1, h⟩ := obind h
    refine pE_gfI rfl rfl hv1 ?_
    refine pE_br (v1 ≤ x4) rfl rfl (fun c25 => ?_) (fun c25 => ?_)
    · rw [if_pos c25] at h
      refine pE_weak [none, none, none, none, none, none, none, none] trivial ?_
      exact f_Tone_goAcross_115 sp d N S _ h
    · rw [if_neg c25] at h
      refine pE_jump 1 (pc' := 13) (ls' := [some (.ref x0), some (.ref x1), some (.int x2), some (.int x3), some (.int x4), none, none, none]) (st' := [.ref x1]) (fun _ => rfl) ?_
      obtain ⟨oq2, hq2, h⟩ := obind h
      cases oq2 with
      | none => cases h
      | some q2 =>
        try dsimp only at h
        refine pE_gfS rfl rfl hq2 ?_
        refine pE_jump 1 (pc' := 18) (ls' := [some (.ref x0), some (.ref x1), some (.int x2), some (.int x3), some (.int x4), none, none, none]) (st' := [.int x4, .ref q2]) (fun _ => rfl) ?_
        obtain ⟨⟨v4, S3⟩, hv4, h⟩ := obind h
        try dsimp only at h
        refine pE_is (Bs := [.ref q2, .int x4]) (st := []) rfl rfl rfl (Nat.le_of_ble_eq_true rfl) (Nat.le_of_ble_eq_true rfl) (f_BP_valueAt sp (d + 1) N S q2 x4 _ hv4) ?_
        refine pE_jump 2 (pc' := 24) (ls' := [some (.ref x0), some (.ref x1), some (.int x2), some (.int x3), some (.int x4), some (.int v4), none, none]) (st' := [.ref x1]) (fun _ => rfl) ?_
        obtain ⟨oq5, hq5, h⟩ := obind h
        cases oq5 with
        | none => cases h
        | some q5 =>
          try dsimp only at h
          refine pE_gfS rfl rfl hq5 ?_
          refine pE_jump 1 (pc' := 29) (ls' := [some (.ref x0), some (.ref x1), some (.int x2), some (.int x3), some (.int x4), some (.int v4), none, none]) (st' := [.int x4, .ref q5]) (fun _ => rfl) ?_
          obtain ⟨⟨v7, S6⟩, hv7, h⟩ := obind h
          try dsimp only at h
          refine pE_is (Bs := [.ref q5, .int x4]) (st := []) rfl rfl rfl (Nat.le_of_ble_eq_true rfl) (Nat.le_of_ble_eq_true rfl) (f_BP_valueAt sp (d + 1) N S3 q5 x4 _ hv7) ?_
          refine pE_jump 2 (pc' := 35) (ls' := [some (.ref x0), some (.ref x1), some (.int x2), some (.int x3), some (.int x4), some (.int v4), some (.int v7), none]) (st' := [.ref x1]) (fun _ => rfl) ?_
          obtain ⟨oq8, hq8, h⟩ := obind h
          cases oq8 with
          | none => cases h
          | some q8 =>
            try dsimp only at h
            refine pE_gfS rfl rfl hq8 ?_
            refine pE_jump 1 (pc' := 40) (ls' := [some (.ref x0), some (.ref x1), some (.int x2), some (.int x3), some (.int x4), some (.int v4), some (.int v7), none]) (st' := [.int x4, .ref q8]) (fun _ => rfl) ?_
            obtain ⟨⟨v10, S9⟩, hv10, h⟩ := obind h
            try dsimp only at h
            refine pE_is (Bs := [.ref q8, .int x4]) (st := []) rfl rfl rfl (Nat.le_of_ble_eq_true rfl) (Nat.le_of_ble_eq_true rfl) (f_BP_valueAt sp (d + 1) N S6 q8 x4 _ hv10) ?_
            refine pE_jump 3 (pc' := 48) (ls' := [some (.ref x0), some (.ref x1), some (.int x2), some (.int x3), some (.int x4), some (.int v4), some (.int v7), some (.int v10)]) (st' := [.int x2, .int v4]) (fun _ => rfl) ?_
            refine pE_br (¬ v4 = x2) rfl rfl (fun c24 => ?_) (fun c24 => ?_)
            · rw [if_neg c24] at h
              exact f_Tone_goAcross_77 sp d N rec3 x0 x1 x2 x3 x4 v4 v7 v10 S9 hrec3 _ h
            · have c24 := Decidable.not_not.mp c24
              rw [if_pos c24] at h
              refine pE_jump 3 (pc' := 56) (ls' := [some (.ref x0), some (.ref x1), some (.int x2), some (.int x3), some (.int x4), some (.int v4), some (.int v7), some (.int v10)]) (st' := [.int v10, .int v4, .ref x1]) (fun _ => rfl) ?_
              obtain ⟨⟨v12, S11⟩, hv12, h⟩ := obind h
              try dsimp only at h
              refine pE_iv (Bs := [.int v4, .int v10]) (st := []) 1 rfl (Or.inl ⟨rfl, rfl⟩) rfl rfl (Nat.le_of_ble_eq_true rfl) (Nat.le_of_ble_eq_true rfl) (g_Wires_pieceAt hv12) (f_Wires_pieceAt sp d N S9 x1 v4 v10 _ hv12) ?_
              refine pE_jump 1 (pc' := 60) (ls' := [some (.ref x0), some (.ref x1), some (.int x2), some (.int x3), some (.int x4), some (.int v4), some (.int v7), some (.int v10)]) (st' := [.int x3, .int v12]) (fun _ => rfl) ?_
              refine pE_br (¬ v12 = x3) rfl rfl (fun c23 => ?_) (fun c23 => ?_)
              · rw [if_neg c23] at h
                exact f_Tone_goAcross_77 sp d N rec3 x0 x1 x2 x3 x4 v4 v7 v10 S11 hrec3 _ h
              · have c23 := Decidable.not_not.mp c23
                rw [if_pos c23] at h
                refine pE_jump 5 (pc' := 71) (ls' := [some (.ref x0), some (.ref x1), some (.int x2), some (.int x3), some (.int x4), some (.int v4), some (.int v7), some (.int v10)]) (st' := [.int v10, .int v7, .ref x1, .int v7, .ref x0]) (fun _ => rfl) ?_
                obtain ⟨⟨v14, S13⟩, hv14, h⟩ := obind h
                try dsimp only at h
                refine pE_iv (Bs := [.int v7, .int v10]) (st := [.int v7, .ref x0]) 1 rfl (Or.inl ⟨rfl, rfl⟩) rfl rfl (Nat.le_of_ble_eq_true rfl) (Nat.le_of_ble_eq_true rfl) (g_Wires_pieceAt hv14) (f_Wires_pieceAt sp d N S11 x1 v7 v10 _ hv14) ?_
                obtain ⟨S15, hS15, h⟩ := obind h
                refine pE_iv (Bs := [.int v7, .int v14]) (st := []) 1 rfl (Or.inl ⟨rfl, rfl⟩) rfl rfl (Nat.le_of_ble_eq_true rfl) (Nat.le_of_ble_eq_true rfl) (g_Tone_come hS15) (f_Tone_come sp d N S13 x0 v7 v14 _ hS15) ?_
                exact f_Tone_goAcross_77 sp d N rec3 x0 x1 x2 x3 x4 v4 v7 v10 S15 hrec3 _ h
def F_Tone_goAcross (N : Nat) (S : pm_S) (a : Nat) (p0 : Nat) (p1 : Int32) (p2 : Int32) : Option pm_S :=
    if rcv S a 8 = true then
    (F_Tone_goAcross_3 N a p0 p1 p2 N 0 S)
    else none
theorem g_Tone_goAcross {N : Nat} {S : pm_S} {a : Nat} {p0 : Nat} {p1 : Int32} {p2 : Int32} {r : pm_S} (h : F_Tone_goAcross N S a p0 p1 p2 = some r) : rcv S a 8 = true := by
  unfold F_Tone_goAcross at h
  by_cases c : rcv S a 8 = true
  · exact c
  · rw [if_neg c] at h; cases h
set_option maxHeartbeats 4000000 in
set_option maxRecDepth 20000 in
theorem f_Tone_goAcross (sp : pm_I → List Value → pm_S → pm_O → Prop) (d N : Nat) (S : pm_S) (a : Nat) (p0 : Nat) (p1 : Int32) (p2 : Int32) (r : pm_S) (h : F_Tone_goAcross N S a p0 p1 p2 = some r) : pm_rel pG sp (d + 3) mi_Tone_goAcross [.ref a, .ref p0, .int p1, .int p2] S (none, r) := by
  have hg := g_Tone_goAcross h
  unfold F_Tone_goAcross at h
  rw [if_pos hg] at h
  refine pE_rel (d := d + 2) ?_
  show pmE pG _ mi_Tone_goAcross 0 [some (.ref a), some (.ref p0), some (.int p1), some (.int p2), none, none, none, none] [] S _
  refine pE_jump 2 (pc' := 3) (ls' := [some (.ref a), some (.ref p0), some (.int p1), some (.int p2), some (.int 0), none, none, none]) (st' := []) (fun _ => rfl) ?_
  exact f_Tone_goAcross_3 sp d N a p0 p1 p2 N 0 S _ h
def F_Tone_send_134 (N : Nat)   (S : pm_S) : Option pm_S :=
    some S
set_option maxHeartbeats 4000000 in
set_option maxRecDepth 20000 in
theorem f_Tone_send_134 (sp : pm_I → List Value → pm_S → pm_O → Prop) (d N : Nat)   (S : pm_S)  (r : pm_S) (h : F_Tone_send_134 N   S = some r) : pmE pG (pm_rel pG sp (d + 3)) mi_Tone_send 134 [none, none, none, none, none, none, none, none, none, none] [] S (none, r) := by
  unfold F_Tone_send_134 at h
  cases h
  exact pE_ret rfl rfl rfl
def F_Tone_send_128 (N : Nat) (rec55 : Int32 → pm_S → Option pm_S) (x0 : Nat) (x1 : Nat) (x2 : Int32) (x6 : Int32) (S : pm_S) : Option pm_S :=
    rec55 (x6 + 1) S
set_option maxHeartbeats 4000000 in
set_option maxRecDepth 20000 in
theorem f_Tone_send_128 (sp : pm_I → List Value → pm_S → pm_O → Prop) (d N : Nat) (rec55 : Int32 → pm_S → Option pm_S) (x0 : Nat) (x1 : Nat) (x2 : Int32) (x6 : Int32) (S : pm_S) (hrec55 : ∀ (y1 : Int32) (U : pm_S) (r : pm_S), rec55 y1 U = some r → pmE pG (pm_rel pG sp (d + 3)) mi_Tone_send 55 [some (.ref x0), some (.ref x1), some (.int x2), none, none, none, some (.int y1), none, none, none] [] U (none, r)) (r : pm_S) (h : F_Tone_send_128 N rec55 x0 x1 x2 x6 S = some r) : pmE pG (pm_rel pG sp (d + 3)) mi_Tone_send 128 [some (.ref x0), some (.ref x1), some (.int x2), none, none, none, some (.int x6), none, none, none] [] S (none, r) := by
  unfold F_Tone_send_128 at h
  refine pE_jump 2 (pc' := 55) (ls' := [some (.ref x0), some (.ref x1), some (.int x2), none, none, none, some (.int (x6 + 1)), none, none, none]) (st' := []) (fun _ => rfl) ?_
  exact hrec55 (x6 + 1) S _ h
def B_Tone_send_55 (N : Nat)  (rec55 : Int32 → pm_S → Option pm_S) (x0 : Nat) (x1 : Nat) (x2 : Int32) (x6 : Int32) (S : pm_S) : Option pm_S :=
    if 616 ≤ x6 then
    F_Tone_send_134 N S
    else
    ((oI S x0 8 4).bind fun v13 =>
    if v13 ≤ 0 then
    F_Tone_send_134 N S
    else
    ((oI S x0 8 4).bind fun v14 =>
    (wF S x0 8 4 .int (.int (v14 - 1))).bind fun S15 =>
    (oR S15 x0 8 1).bind fun oq16 => match oq16 with
    | none => none
    | some q16 =>
    (oI S15 x0 8 4).bind fun v18 =>
    (F_BP_valueAt N S15 q16 v18).bind fun (v20, S19) =>
    (F_Tone_goAlong N S19 x0 x1 (v20 >>> (4 &&& 31)) (v20 &&& 15)).bind fun S21 =>
    if x2 = 0 then
    F_Tone_send_128 N rec55 x0 x1 x2 x6 S21
    else
    ((F_Tone_goAcross N S21 x0 x1 (v20 >>> (4 &&& 31)) (v20 &&& 15)).bind fun S22 =>
    F_Tone_send_128 N rec55 x0 x1 x2 x6 S22)))
def F_Tone_send_55 (N : Nat)  (x0 : Nat) (x1 : Nat) (x2 : Int32) : Nat → Int32 → pm_S → Option pm_S
  | 0 => fun _ _ => none
  | n + 1 => fun x6 S => B_Tone_send_55 N  (F_Tone_send_55 N  x0 x1 x2 n) x0 x1 x2 x6 S
set_option maxHeartbeats 4000000 in
set_option maxRecDepth 20000 in
theorem f_Tone_send_55 (sp : pm_I → List Value → pm_S → pm_O → Prop) (d N : Nat)  (x0 : Nat) (x1 : Nat) (x2 : Int32)  : ∀ (n : Nat) (x6 : Int32) (S : pm_S) (r : pm_S), F_Tone_send_55 N  x0 x1 x2 n x6 S = some r → pmE pG (pm_rel pG sp (d + 3)) mi_Tone_send 55 [some (.ref x0), some (.ref x1), some (.int x2), none, none, none, some (.int x6), none, none, none] [] S (none, r) := by
  intro n
  induction n with
  | zero =>
    intro x6 S r h
    cases h
  | succ n ih =>
    intro x6 S r h
    replace h : B_Tone_send_55 N  (F_Tone_send_55 N  x0 x1 x2 n) x0 x1 x2 x6 S = some r := h
    have hrec55 := ih
    generalize F_Tone_send_55 N  x0 x1 x2 n = rec55 at h hrec55
    unfold B_Tone_send_55 at h
    refine pE_jump 2 (pc' := 60) (ls' := [some (.ref x0), some (.ref x1), some (.int x2), none, none, none, some (.int x6), none, none, none]) (st' := [.int 616, .int x6]) (fun _ => rfl) ?_
    refine pE_br (616 ≤ x6) rfl rfl (fun c25 => ?_) (fun c25 => ?_)
    · rw [if_pos c25] at h
      refine pE_weak [none, none, none, none, none, none, none, none, none, none] trivial ?_
      exact f_Tone_send_134 sp d N S _ h
    · rw [if_neg c25] at h
      refine pE_jump 1 (pc' := 64) (ls' := [some (.ref x0), some (.ref x1), some (.int x2), none, none, none, some (.int x6), none, none, none]) (st' := [.ref x0]) (fun _ => rfl) ?_
      obtain ⟨v13, hv13, h⟩ := obind h
      refine pE_gfI rfl rfl hv13 ?_
      refine pE_br (v13 ≤ 0) rfl rfl (fun c24 => ?_) (fun c24 => ?_)
      · rw [if_pos c24] at h
        refine pE_weak [none, none, none, none, none, none, none, none, none, none] trivial ?_
        exact f_Tone_send_134 sp d N S _ h
      · rw [if_neg c24] at h
        refine pE_jump 2 (pc' := 72) (ls' := [some (.ref x0), some (.ref x1), some (.int x2), none, none, none, some (.int x6), none, none, none]) (st' := [.ref x0, .ref x0]) (fun _ => rfl) ?_
        obtain ⟨v14, hv14, h⟩ := obind h
        refine pE_gfI rfl rfl hv14 ?_
        refine pE_jump 2 (pc' := 77) (ls' := [some (.ref x0), some (.ref x1), some (.int x2), none, none, none, some (.int x6), none, none, none]) (st' := [.int (v14 - 1), .ref x0]) (fun _ => rfl) ?_
        obtain ⟨S15, hS15, h⟩ := obind h
        refine pE_pf rfl rfl rfl hS15 ?_
        refine pE_jump 1 (pc' := 81) (ls' := [some (.ref x0), some (.ref x1), some (.int x2), none, none, none, some (.int x6), none, none, none]) (st' := [.ref x0]) (fun _ => rfl) ?_
        obtain ⟨oq16, hq16, h⟩ := obind h
        cases oq16 with
        | none => cases h
        | some q16 =>
          try dsimp only at h
          refine pE_gfS rfl rfl hq16 ?_
          refine pE_jump 1 (pc' := 85) (ls' := [some (.ref x0), some (.ref x1), some (.int x2), none, none, none, some (.int x6), none, none, none]) (st' := [.ref x0, .ref q16]) (fun _ => rfl) ?_
          obtain ⟨v18, hv18, h⟩ := obind h
          refine pE_gfI rfl rfl hv18 ?_
          obtain ⟨⟨v20, S19⟩, hv20, h⟩ := obind h
          try dsimp only at h
          refine pE_is (Bs := [.ref q16, .int v18]) (st := []) rfl rfl rfl (Nat.le_of_ble_eq_true rfl) (Nat.le_of_ble_eq_true rfl) (f_BP_valueAt sp (d + 2) N S15 q16 v18 _ hv20) ?_
          refine pE_jump 13 (pc' := 112) (ls' := [some (.ref x0), some (.ref x1), some (.int x2), none, none, none, some (.int x6), some (.int v20), some (.int (v20 >>> (4 &&& 31))), some (.int (v20 &&& 15))]) (st' := [.int (v20 &&& 15), .int (v20 >>> (4 &&& 31)), .ref x1, .ref x0]) (fun _ => rfl) ?_
          obtain ⟨S21, hS21, h⟩ := obind h
          refine pE_iv (Bs := [.ref x1, .int (v20 >>> (4 &&& 31)), .int (v20 &&& 15)]) (st := []) 1 rfl (Or.inl ⟨rfl, rfl⟩) rfl rfl (Nat.le_of_ble_eq_true rfl) (Nat.le_of_ble_eq_true rfl) (g_Tone_goAlong hS21) (f_Tone_goAlong sp d N S19 x0 x1 (v20 >>> (4 &&& 31)) (v20 &&& 15) _ hS21) ?_
          refine pE_jump 1 (pc' := 116) (ls' := [some (.ref x0), some (.ref x1), some (.int x2), none, none, none, some (.int x6), some (.int v20), some (.int (v20 >>> (4 &&& 31))), some (.int (v20 &&& 15))]) (st' := [.int x2]) (fun _ => rfl) ?_
          refine pE_br (x2 = 0) rfl rfl (fun c23 => ?_) (fun c23 => ?_)
          · rw [if_pos c23] at h
            refine pE_weak [some (.ref x0), some (.ref x1), some (.int x2), none, none, none, some (.int x6), none, none, none] ⟨rfl, ⟨rfl, ⟨rfl, ⟨rfl, trivial⟩⟩⟩⟩ ?_
            exact f_Tone_send_128 sp d N rec55 x0 x1 x2 x6 S21 hrec55 _ h
          · rw [if_neg c23] at h
            refine pE_jump 4 (pc' := 125) (ls' := [some (.ref x0), some (.ref x1), some (.int x2), none, none, none, some (.int x6), some (.int v20), some (.int (v20 >>> (4 &&& 31))), some (.int (v20 &&& 15))]) (st' := [.int (v20 &&& 15), .int (v20 >>> (4 &&& 31)), .ref x1, .ref x0]) (fun _ => rfl) ?_
            obtain ⟨S22, hS22, h⟩ := obind h
            refine pE_iv (Bs := [.ref x1, .int (v20 >>> (4 &&& 31)), .int (v20 &&& 15)]) (st := []) 1 rfl (Or.inl ⟨rfl, rfl⟩) rfl rfl (Nat.le_of_ble_eq_true rfl) (Nat.le_of_ble_eq_true rfl) (g_Tone_goAcross hS22) (f_Tone_goAcross sp d N S21 x0 x1 (v20 >>> (4 &&& 31)) (v20 &&& 15) _ hS22) ?_
            refine pE_weak [some (.ref x0), some (.ref x1), some (.int x2), none, none, none, some (.int x6), none, none, none] ⟨rfl, ⟨rfl, ⟨rfl, ⟨rfl, trivial⟩⟩⟩⟩ ?_
            exact f_Tone_send_128 sp d N rec55 x0 x1 x2 x6 S22 hrec55 _ h
def F_Tone_send (N : Nat) (S : pm_S) (a : Nat) (p0 : Nat) (p1 : Int32) (p2 : Int32) (p3 : Int32) : Option pm_S :=
    if rcv S a 8 = true then
    ((oR S a 8 0).bind fun oq1 => match oq1 with
    | none => none
    | some q1 =>
    (F_Arr_fill N S q1 0).bind fun S2 =>
    (oR S2 a 8 2).bind fun oq3 => match oq3 with
    | none => none
    | some q3 =>
    (F_Arr_fill N S2 q3 0).bind fun S4 =>
    (oR S4 a 8 3).bind fun oq5 => match oq5 with
    | none => none
    | some q5 =>
    (F_Arr_fill N S4 q5 0).bind fun S6 =>
    (wF S6 a 8 4 .int (.int 0)).bind fun S7 =>
    (F_Wires_wireAt N S7 p0 p2 p3).bind fun (v9, S8) =>
    (F_Wires_pieceAtEnd N S8 p0 v9 p3).bind fun (v11, S10) =>
    (F_Tone_come N S10 a v9 v11).bind fun S12 =>
    F_Tone_send_55 N a p0 p1 N 0 S12)
    else none
theorem g_Tone_send {N : Nat} {S : pm_S} {a : Nat} {p0 : Nat} {p1 : Int32} {p2 : Int32} {p3 : Int32} {r : pm_S} (h : F_Tone_send N S a p0 p1 p2 p3 = some r) : rcv S a 8 = true := by
  unfold F_Tone_send at h
  by_cases c : rcv S a 8 = true
  · exact c
  · rw [if_neg c] at h; cases h
set_option maxHeartbeats 4000000 in
set_option maxRecDepth 20000 in
theorem f_Tone_send (sp : pm_I → List Value → pm_S → pm_O → Prop) (d N : Nat) (S : pm_S) (a : Nat) (p0 : Nat) (p1 : Int32) (p2 : Int32) (p3 : Int32) (r : pm_S) (h : F_Tone_send N S a p0 p1 p2 p3 = some r) : pm_rel pG sp (d + 4) mi_Tone_send [.ref a, .ref p0, .int p1, .int p2, .int p3] S (none, r) := by
  have hg := g_Tone_send h
  unfold F_Tone_send at h
  rw [if_pos hg] at h
  refine pE_rel (d := d + 3) ?_
  show pmE pG _ mi_Tone_send 0 [some (.ref a), some (.ref p0), some (.int p1), some (.int p2), some (.int p3), none, none, none, none, none] [] S _
  refine pE_jump 1 (pc' := 1) (ls' := [some (.ref a), some (.ref p0), some (.int p1), some (.int p2), some (.int p3), none, none, none, none, none]) (st' := [.ref a]) (fun _ => rfl) ?_
  obtain ⟨oq1, hq1, h⟩ := obind h
  cases oq1 with
  | none => cases h
  | some q1 =>
    try dsimp only at h
    refine pE_gfS rfl rfl hq1 ?_
    refine pE_jump 1 (pc' := 5) (ls' := [some (.ref a), some (.ref p0), some (.int p1), some (.int p2), some (.int p3), none, none, none, none, none]) (st' := [.int 0, .ref q1]) (fun _ => rfl) ?_
    obtain ⟨S2, hS2, h⟩ := obind h
    refine pE_is (Bs := [.ref q1, .int 0]) (st := []) rfl rfl rfl (Nat.le_of_ble_eq_true rfl) (Nat.le_of_ble_eq_true rfl) (f_Arr_fill sp (d + 2) N S q1 0 _ hS2) ?_
    refine pE_jump 1 (pc' := 9) (ls' := [some (.ref a), some (.ref p0), some (.int p1), some (.int p2), some (.int p3), none, none, none, none, none]) (st' := [.ref a]) (fun _ => rfl) ?_
    obtain ⟨oq3, hq3, h⟩ := obind h
    cases oq3 with
    | none => cases h
    | some q3 =>
      try dsimp only at h
      refine pE_gfS rfl rfl hq3 ?_
      refine pE_jump 1 (pc' := 13) (ls' := [some (.ref a), some (.ref p0), some (.int p1), some (.int p2), some (.int p3), none, none, none, none, none]) (st' := [.int 0, .ref q3]) (fun _ => rfl) ?_
      obtain ⟨S4, hS4, h⟩ := obind h
      refine pE_is (Bs := [.ref q3, .int 0]) (st := []) rfl rfl rfl (Nat.le_of_ble_eq_true rfl) (Nat.le_of_ble_eq_true rfl) (f_Arr_fill sp (d + 2) N S2 q3 0 _ hS4) ?_
      refine pE_jump 1 (pc' := 17) (ls' := [some (.ref a), some (.ref p0), some (.int p1), some (.int p2), some (.int p3), none, none, none, none, none]) (st' := [.ref a]) (fun _ => rfl) ?_
      obtain ⟨oq5, hq5, h⟩ := obind h
      cases oq5 with
      | none => cases h
      | some q5 =>
        try dsimp only at h
        refine pE_gfS rfl rfl hq5 ?_
        refine pE_jump 1 (pc' := 21) (ls' := [some (.ref a), some (.ref p0), some (.int p1), some (.int p2), some (.int p3), none, none, none, none, none]) (st' := [.int 0, .ref q5]) (fun _ => rfl) ?_
        obtain ⟨S6, hS6, h⟩ := obind h
        refine pE_is (Bs := [.ref q5, .int 0]) (st := []) rfl rfl rfl (Nat.le_of_ble_eq_true rfl) (Nat.le_of_ble_eq_true rfl) (f_Arr_fill sp (d + 2) N S4 q5 0 _ hS6) ?_
        refine pE_jump 2 (pc' := 26) (ls' := [some (.ref a), some (.ref p0), some (.int p1), some (.int p2), some (.int p3), none, none, none, none, none]) (st' := [.int 0, .ref a]) (fun _ => rfl) ?_
        obtain ⟨S7, hS7, h⟩ := obind h
        refine pE_pf rfl rfl rfl hS7 ?_
        refine pE_jump 3 (pc' := 33) (ls' := [some (.ref a), some (.ref p0), some (.int p1), some (.int p2), some (.int p3), none, none, none, none, none]) (st' := [.int p3, .int p2, .ref p0]) (fun _ => rfl) ?_
        obtain ⟨⟨v9, S8⟩, hv9, h⟩ := obind h
        try dsimp only at h
        refine pE_iv (Bs := [.int p2, .int p3]) (st := []) 1 rfl (Or.inl ⟨rfl, rfl⟩) rfl rfl (Nat.le_of_ble_eq_true rfl) (Nat.le_of_ble_eq_true rfl) (g_Wires_wireAt hv9) (f_Wires_wireAt sp (d + 1) N S7 p0 p2 p3 _ hv9) ?_
        refine pE_jump 6 (pc' := 46) (ls' := [some (.ref a), some (.ref p0), some (.int p1), some (.int p2), some (.int p3), some (.int v9), none, none, none, none]) (st' := [.int p3, .int v9, .ref p0, .int v9, .ref a]) (fun _ => rfl) ?_
        obtain ⟨⟨v11, S10⟩, hv11, h⟩ := obind h
        try dsimp only at h
        refine pE_iv (Bs := [.int v9, .int p3]) (st := [.int v9, .ref a]) 1 rfl (Or.inl ⟨rfl, rfl⟩) rfl rfl (Nat.le_of_ble_eq_true rfl) (Nat.le_of_ble_eq_true rfl) (g_Wires_pieceAtEnd hv11) (f_Wires_pieceAtEnd sp (d + 1) N S8 p0 v9 p3 _ hv11) ?_
        obtain ⟨S12, hS12, h⟩ := obind h
        refine pE_iv (Bs := [.int v9, .int v11]) (st := []) 1 rfl (Or.inl ⟨rfl, rfl⟩) rfl rfl (Nat.le_of_ble_eq_true rfl) (Nat.le_of_ble_eq_true rfl) (g_Tone_come hS12) (f_Tone_come sp (d + 1) N S10 a v9 v11 _ hS12) ?_
        refine pE_jump 2 (pc' := 55) (ls' := [some (.ref a), some (.ref p0), some (.int p1), some (.int p2), some (.int p3), some (.int v9), some (.int 0), none, none, none]) (st' := []) (fun _ => rfl) ?_
        refine pE_weak [some (.ref a), some (.ref p0), some (.int p1), none, none, none, some (.int 0), none, none, none] ⟨rfl, ⟨rfl, ⟨rfl, ⟨rfl, trivial⟩⟩⟩⟩ ?_
        exact f_Tone_send_55 sp d N a p0 p1 N 0 S12 _ h
def F_BP_heard_51 (N : Nat)   (S : pm_S) : Option (Int32 × pm_S) :=
    some ((-1), S)
set_option maxHeartbeats 4000000 in
set_option maxRecDepth 20000 in
theorem f_BP_heard_51 (sp : pm_I → List Value → pm_S → pm_O → Prop) (d N : Nat)   (S : pm_S)  (r : (Int32 × pm_S)) (h : F_BP_heard_51 N   S = some r) : pmE pG (pm_rel pG sp (d + 5)) mi_BP_heard 51 [none, none, none, none, none, none, none, none, none, none] [] S (some (.int r.1), r.2) := by
  unfold F_BP_heard_51 at h
  refine pE_jump 1 (pc' := 52) (ls' := [none, none, none, none, none, none, none, none, none, none]) (st' := [.int (-1)]) (fun _ => rfl) ?_
  cases h
  exact pE_ret rfl rfl rfl
def F_BP_heard (N : Nat) (S : pm_S) (a : Nat) (p0 : Int32) (p1 : Int32) (p2 : Int32) (p3 : Int32) (p4 : Int32) (p5 : Int32) (p6 : Int32) (p7 : Int32) : Option (Int32 × pm_S) :=
    if rcv S a 10 = true then
    ((F_BP_planWith N S a p0 p1).bind fun (oq2, S1) => match oq2 with
    | none => F_BP_heard_51 N S1
    | some q2 =>
    (F_Plan_hasPair N S1 q2 p3 p4).bind fun (v4, S3) =>
    if v4 = 0 then
    F_BP_heard_51 N S3
    else
    ((F_BP_isEnd N S3 p5).bind fun (v6, S5) =>
    if v6 = 0 then
    F_BP_heard_51 N S5
    else
    ((F_Plan_hasCable N S5 q2 p6).bind fun (v8, S7) =>
    if v8 = 0 then
    F_BP_heard_51 N S7
    else
    ((F_BP_isEnd N S7 p7).bind fun (v10, S9) =>
    if v10 = 0 then
    F_BP_heard_51 N S9
    else
    ((oR S9 a 10 3).bind fun oq11 => match oq11 with
    | none => none
    | some q11 =>
    (oR S9 q11 0 0).bind fun oq12 => match oq12 with
    | none => none
    | some q12 =>
    (F_Wires_lay N S9 q12 q2 p1).bind fun S13 =>
    (oR S13 a 10 3).bind fun oq14 => match oq14 with
    | none => none
    | some q14 =>
    (oR S13 q14 0 1).bind fun oq15 => match oq15 with
    | none => none
    | some q15 =>
    (oR S13 a 10 3).bind fun oq22 => match oq22 with
    | none => none
    | some q22 =>
    (oR S13 q22 0 0).bind fun oq23 => match oq23 with
    | none => none
    | some q23 =>
    (F_BP_siteOf N S13 p3 p4).bind fun (v27, S26) =>
    (F_Tone_send N S26 q15 q23 p2 v27 p5).bind fun S28 =>
    (oR S28 a 10 3).bind fun oq29 => match oq29 with
    | none => none
    | some q29 =>
    (oR S28 q29 0 1).bind fun oq30 => match oq30 with
    | none => none
    | some q30 =>
    (F_Tone_comesTo N S28 q30 p6 p7).bind fun (v32, S31) =>
    some (v32, S31))))))
    else none
theorem g_BP_heard {N : Nat} {S : pm_S} {a : Nat} {p0 : Int32} {p1 : Int32} {p2 : Int32} {p3 : Int32} {p4 : Int32} {p5 : Int32} {p6 : Int32} {p7 : Int32} {r : (Int32 × pm_S)} (h : F_BP_heard N S a p0 p1 p2 p3 p4 p5 p6 p7 = some r) : rcv S a 10 = true := by
  unfold F_BP_heard at h
  by_cases c : rcv S a 10 = true
  · exact c
  · rw [if_neg c] at h; cases h
set_option maxHeartbeats 4000000 in
set_option maxRecDepth 20000 in
theorem f_BP_heard (sp : pm_I → List Value → pm_S → pm_O → Prop) (d N : Nat) (S : pm_S) (a : Nat) (p0 : Int32) (p1 : Int32) (p2 : Int32) (p3 : Int32) (p4 : Int32) (p5 : Int32) (p6 : Int32) (p7 : Int32) (r : (Int32 × pm_S)) (h : F_BP_heard N S a p0 p1 p2 p3 p4 p5 p6 p7 = some r) : pm_rel pG sp (d + 6) mi_BP_heard [.ref a, .int p0, .int p1, .int p2, .int p3, .int p4, .int p5, .int p6, .int p7] S (some (.int r.1), r.2) := by
  have hg := g_BP_heard h
  unfold F_BP_heard at h
  rw [if_pos hg] at h
  refine pE_rel (d := d + 5) ?_
  show pmE pG _ mi_BP_heard 0 [some (.ref a), some (.int p0), some (.int p1), some (.int p2), some (.int p3), some (.int p4), some (.int p5), some (.int p6), some (.int p7), none] [] S _
  refine pE_jump 3 (pc' := 3) (ls' := [some (.ref a), some (.int p0), some (.int p1), some (.int p2), some (.int p3), some (.int p4), some (.int p5), some (.int p6), some (.int p7), none]) (st' := [.int p1, .int p0, .ref a]) (fun _ => rfl) ?_
  obtain ⟨⟨oq2, S1⟩, hq2, h⟩ := obind h
  try dsimp only at h
  cases oq2 with
  | none =>
    try dsimp only at h
    refine pE_iv (Bs := [.int p0, .int p1]) (st := []) 1 rfl (Or.inl ⟨rfl, rfl⟩) rfl rfl (Nat.le_of_ble_eq_true rfl) (Nat.le_of_ble_eq_true rfl) (g_BP_planWith hq2) (f_BP_planWith sp (d + 1) N S a p0 p1 _ hq2) ?_
    refine pE_jump 3 (pc' := 51) (ls' := [some (.ref a), some (.int p0), some (.int p1), some (.int p2), some (.int p3), some (.int p4), some (.int p5), some (.int p6), some (.int p7), some (.null)]) (st' := []) (fun _ => rfl) ?_
    refine pE_weak [none, none, none, none, none, none, none, none, none, none] trivial ?_
    exact f_BP_heard_51 sp d N S1 _ h
  | some q2 =>
    try dsimp only at h
    refine pE_iv (Bs := [.int p0, .int p1]) (st := []) 1 rfl (Or.inl ⟨rfl, rfl⟩) rfl rfl (Nat.le_of_ble_eq_true rfl) (Nat.le_of_ble_eq_true rfl) (g_BP_planWith hq2) (f_BP_planWith sp (d + 1) N S a p0 p1 _ hq2) ?_
    refine pE_jump 6 (pc' := 19) (ls' := [some (.ref a), some (.int p0), some (.int p1), some (.int p2), some (.int p3), some (.int p4), some (.int p5), some (.int p6), some (.int p7), some (.ref q2)]) (st' := [.int p4, .int p3, .ref q2]) (fun _ => rfl) ?_
    obtain ⟨⟨v4, S3⟩, hv4, h⟩ := obind h
    try dsimp only at h
    refine pE_iv (Bs := [.int p3, .int p4]) (st := []) 1 rfl (Or.inl ⟨rfl, rfl⟩) rfl rfl (Nat.le_of_ble_eq_true rfl) (Nat.le_of_ble_eq_true rfl) (g_Plan_hasPair hv4) (f_Plan_hasPair sp (d + 2) N S1 q2 p3 p4 _ hv4) ?_
    refine pE_br (v4 = 0) rfl rfl (fun c36 => ?_) (fun c36 => ?_)
    · rw [if_pos c36] at h
      refine pE_weak [none, none, none, none, none, none, none, none, none, none] trivial ?_
      exact f_BP_heard_51 sp d N S3 _ h
    · rw [if_neg c36] at h
      refine pE_jump 1 (pc' := 27) (ls' := [some (.ref a), some (.int p0), some (.int p1), some (.int p2), some (.int p3), some (.int p4), some (.int p5), some (.int p6), some (.int p7), some (.ref q2)]) (st' := [.int p5]) (fun _ => rfl) ?_
      obtain ⟨⟨v6, S5⟩, hv6, h⟩ := obind h
      try dsimp only at h
      refine pE_is (Bs := [.int p5]) (st := []) rfl rfl rfl (Nat.le_of_ble_eq_true rfl) (Nat.le_of_ble_eq_true rfl) (f_BP_isEnd sp (d + 4) N S3 p5 _ hv6) ?_
      refine pE_br (v6 = 0) rfl rfl (fun c35 => ?_) (fun c35 => ?_)
      · rw [if_pos c35] at h
        refine pE_weak [none, none, none, none, none, none, none, none, none, none] trivial ?_
        exact f_BP_heard_51 sp d N S5 _ h
      · rw [if_neg c35] at h
        refine pE_jump 2 (pc' := 37) (ls' := [some (.ref a), some (.int p0), some (.int p1), some (.int p2), some (.int p3), some (.int p4), some (.int p5), some (.int p6), some (.int p7), some (.ref q2)]) (st' := [.int p6, .ref q2]) (fun _ => rfl) ?_
        obtain ⟨⟨v8, S7⟩, hv8, h⟩ := obind h
        try dsimp only at h
        refine pE_iv (Bs := [.int p6]) (st := []) 1 rfl (Or.inl ⟨rfl, rfl⟩) rfl rfl (Nat.le_of_ble_eq_true rfl) (Nat.le_of_ble_eq_true rfl) (g_Plan_hasCable hv8) (f_Plan_hasCable sp (d + 3) N S5 q2 p6 _ hv8) ?_
        refine pE_br (v8 = 0) rfl rfl (fun c34 => ?_) (fun c34 => ?_)
        · rw [if_pos c34] at h
          refine pE_weak [none, none, none, none, none, none, none, none, none, none] trivial ?_
          exact f_BP_heard_51 sp d N S7 _ h
        · rw [if_neg c34] at h
          refine pE_jump 1 (pc' := 45) (ls' := [some (.ref a), some (.int p0), some (.int p1), some (.int p2), some (.int p3), some (.int p4), some (.int p5), some (.int p6), some (.int p7), some (.ref q2)]) (st' := [.int p7]) (fun _ => rfl) ?_
          obtain ⟨⟨v10, S9⟩, hv10, h⟩ := obind h
          try dsimp only at h
          refine pE_is (Bs := [.int p7]) (st := []) rfl rfl rfl (Nat.le_of_ble_eq_true rfl) (Nat.le_of_ble_eq_true rfl) (f_BP_isEnd sp (d + 4) N S7 p7 _ hv10) ?_
          refine pE_br (¬ v10 = 0) rfl rfl (fun c33 => ?_) (fun c33 => ?_)
          · rw [if_neg c33] at h
            refine pE_jump 1 (pc' := 54) (ls' := [some (.ref a), some (.int p0), some (.int p1), some (.int p2), some (.int p3), some (.int p4), some (.int p5), some (.int p6), some (.int p7), some (.ref q2)]) (st' := [.ref a]) (fun _ => rfl) ?_
            obtain ⟨oq11, hq11, h⟩ := obind h
            cases oq11 with
            | none => cases h
            | some q11 =>
              try dsimp only at h
              refine pE_gfS rfl rfl hq11 ?_
              obtain ⟨oq12, hq12, h⟩ := obind h
              cases oq12 with
              | none => cases h
              | some q12 =>
                try dsimp only at h
                refine pE_gfS rfl rfl hq12 ?_
                refine pE_jump 2 (pc' := 63) (ls' := [some (.ref a), some (.int p0), some (.int p1), some (.int p2), some (.int p3), some (.int p4), some (.int p5), some (.int p6), some (.int p7), some (.ref q2)]) (st' := [.int p1, .ref q2, .ref q12]) (fun _ => rfl) ?_
                obtain ⟨S13, hS13, h⟩ := obind h
                refine pE_iv (Bs := [.ref q2, .int p1]) (st := []) 1 rfl (Or.inl ⟨rfl, rfl⟩) rfl rfl (Nat.le_of_ble_eq_true rfl) (Nat.le_of_ble_eq_true rfl) (g_Wires_lay hS13) (f_Wires_lay sp d N S9 q12 q2 p1 _ hS13) ?_
                refine pE_jump 1 (pc' := 67) (ls' := [some (.ref a), some (.int p0), some (.int p1), some (.int p2), some (.int p3), some (.int p4), some (.int p5), some (.int p6), some (.int p7), some (.ref q2)]) (st' := [.ref a]) (fun _ => rfl) ?_
                obtain ⟨oq14, hq14, h⟩ := obind h
                cases oq14 with
                | none => cases h
                | some q14 =>
                  try dsimp only at h
                  refine pE_gfS rfl rfl hq14 ?_
                  obtain ⟨oq15, hq15, h⟩ := obind h
                  cases oq15 with
                  | none => cases h
                  | some q15 =>
                    try dsimp only at h
                    refine pE_gfS rfl rfl hq15 ?_
                    refine pE_jump 1 (pc' := 74) (ls' := [some (.ref a), some (.int p0), some (.int p1), some (.int p2), some (.int p3), some (.int p4), some (.int p5), some (.int p6), some (.int p7), some (.ref q2)]) (st' := [.ref a, .ref q15]) (fun _ => rfl) ?_
                    obtain ⟨oq22, hq22, h⟩ := obind h
                    cases oq22 with
                    | none => cases h
                    | some q22 =>
                      try dsimp only at h
                      refine pE_gfS rfl rfl hq22 ?_
                      obtain ⟨oq23, hq23, h⟩ := obind h
                      cases oq23 with
                      | none => cases h
                      | some q23 =>
                        try dsimp only at h
                        refine pE_gfS rfl rfl hq23 ?_
                        refine pE_jump 3 (pc' := 85) (ls' := [some (.ref a), some (.int p0), some (.int p1), some (.int p2), some (.int p3), some (.int p4), some (.int p5), some (.int p6), some (.int p7), some (.ref q2)]) (st' := [.int p4, .int p3, .int p2, .ref q23, .ref q15]) (fun _ => rfl) ?_
                        obtain ⟨⟨v27, S26⟩, hv27, h⟩ := obind h
                        try dsimp only at h
                        refine pE_is (Bs := [.int p3, .int p4]) (st := [.int p2, .ref q23, .ref q15]) rfl rfl rfl (Nat.le_of_ble_eq_true rfl) (Nat.le_of_ble_eq_true rfl) (f_BP_siteOf sp (d + 4) N S13 p3 p4 _ hv27) ?_
                        refine pE_jump 1 (pc' := 90) (ls' := [some (.ref a), some (.int p0), some (.int p1), some (.int p2), some (.int p3), some (.int p4), some (.int p5), some (.int p6), some (.int p7), some (.ref q2)]) (st' := [.int p5, .int v27, .int p2, .ref q23, .ref q15]) (fun _ => rfl) ?_
                        obtain ⟨S28, hS28, h⟩ := obind h
                        refine pE_iv (Bs := [.ref q23, .int p2, .int v27, .int p5]) (st := []) 1 rfl (Or.inl ⟨rfl, rfl⟩) rfl rfl (Nat.le_of_ble_eq_true rfl) (Nat.le_of_ble_eq_true rfl) (g_Tone_send hS28) (f_Tone_send sp (d + 1) N S26 q15 q23 p2 v27 p5 _ hS28) ?_
                        refine pE_jump 1 (pc' := 94) (ls' := [some (.ref a), some (.int p0), some (.int p1), some (.int p2), some (.int p3), some (.int p4), some (.int p5), some (.int p6), some (.int p7), some (.ref q2)]) (st' := [.ref a]) (fun _ => rfl) ?_
                        obtain ⟨oq29, hq29, h⟩ := obind h
                        cases oq29 with
                        | none => cases h
                        | some q29 =>
                          try dsimp only at h
                          refine pE_gfS rfl rfl hq29 ?_
                          obtain ⟨oq30, hq30, h⟩ := obind h
                          cases oq30 with
                          | none => cases h
                          | some q30 =>
                            try dsimp only at h
                            refine pE_gfS rfl rfl hq30 ?_
                            refine pE_jump 2 (pc' := 104) (ls' := [some (.ref a), some (.int p0), some (.int p1), some (.int p2), some (.int p3), some (.int p4), some (.int p5), some (.int p6), some (.int p7), some (.ref q2)]) (st' := [.int p7, .int p6, .ref q30]) (fun _ => rfl) ?_
                            obtain ⟨⟨v32, S31⟩, hv32, h⟩ := obind h
                            try dsimp only at h
                            refine pE_iv (Bs := [.int p6, .int p7]) (st := []) 1 rfl (Or.inl ⟨rfl, rfl⟩) rfl rfl (Nat.le_of_ble_eq_true rfl) (Nat.le_of_ble_eq_true rfl) (g_Tone_comesTo hv32) (f_Tone_comesTo sp (d + 3) N S28 q30 p6 p7 _ hv32) ?_
                            cases h
                            exact pE_ret rfl rfl rfl
          · have c33 := Decidable.not_not.mp c33
            rw [if_pos c33] at h
            refine pE_weak [none, none, none, none, none, none, none, none, none, none] trivial ?_
            exact f_BP_heard_51 sp d N S9 _ h
