def F_M_count_147 (N : Nat)  (t0 : Int32) (S : pm_S) : Option (Int32 × pm_S) :=
    some (t0, S)
set_option maxHeartbeats 4000000 in
set_option maxRecDepth 20000 in
theorem f_M_count_147 (sp : pm_I → List Value → pm_S → pm_O → Prop) (d N : Nat)  (t0 : Int32) (S : pm_S)  (r : (Int32 × pm_S)) (h : F_M_count_147 N  t0 S = some r) : pmE pG (pm_rel pG sp (d + 0)) mi_M_count 147 [none, none] [.int t0] S (some (.int r.1), r.2) := by
  unfold F_M_count_147 at h
  cases h
  exact pE_ret rfl rfl rfl
def F_M_count_129 (N : Nat)  (t0 : Int32) (S : pm_S) : Option (Int32 × pm_S) :=
    some (t0, S)
set_option maxHeartbeats 4000000 in
set_option maxRecDepth 20000 in
theorem f_M_count_129 (sp : pm_I → List Value → pm_S → pm_O → Prop) (d N : Nat)  (t0 : Int32) (S : pm_S)  (r : (Int32 × pm_S)) (h : F_M_count_129 N  t0 S = some r) : pmE pG (pm_rel pG sp (d + 0)) mi_M_count 129 [none, none] [.int t0] S (some (.int r.1), r.2) := by
  unfold F_M_count_129 at h
  cases h
  exact pE_ret rfl rfl rfl
def F_M_count_111 (N : Nat)  (t0 : Int32) (S : pm_S) : Option (Int32 × pm_S) :=
    some (t0, S)
set_option maxHeartbeats 4000000 in
set_option maxRecDepth 20000 in
theorem f_M_count_111 (sp : pm_I → List Value → pm_S → pm_O → Prop) (d N : Nat)  (t0 : Int32) (S : pm_S)  (r : (Int32 × pm_S)) (h : F_M_count_111 N  t0 S = some r) : pmE pG (pm_rel pG sp (d + 0)) mi_M_count 111 [none, none] [.int t0] S (some (.int r.1), r.2) := by
  unfold F_M_count_111 at h
  cases h
  exact pE_ret rfl rfl rfl
def F_M_count_93 (N : Nat)  (t0 : Int32) (S : pm_S) : Option (Int32 × pm_S) :=
    some (t0, S)
set_option maxHeartbeats 4000000 in
set_option maxRecDepth 20000 in
theorem f_M_count_93 (sp : pm_I → List Value → pm_S → pm_O → Prop) (d N : Nat)  (t0 : Int32) (S : pm_S)  (r : (Int32 × pm_S)) (h : F_M_count_93 N  t0 S = some r) : pmE pG (pm_rel pG sp (d + 0)) mi_M_count 93 [none, none] [.int t0] S (some (.int r.1), r.2) := by
  unfold F_M_count_93 at h
  cases h
  exact pE_ret rfl rfl rfl
def F_M_count_75 (N : Nat)  (t0 : Int32) (S : pm_S) : Option (Int32 × pm_S) :=
    some (t0, S)
set_option maxHeartbeats 4000000 in
set_option maxRecDepth 20000 in
theorem f_M_count_75 (sp : pm_I → List Value → pm_S → pm_O → Prop) (d N : Nat)  (t0 : Int32) (S : pm_S)  (r : (Int32 × pm_S)) (h : F_M_count_75 N  t0 S = some r) : pmE pG (pm_rel pG sp (d + 0)) mi_M_count 75 [none, none] [.int t0] S (some (.int r.1), r.2) := by
  unfold F_M_count_75 at h
  cases h
  exact pE_ret rfl rfl rfl
def F_M_count (N : Nat) (S : pm_S) (a : Nat) (p0 : Int32) : Option (Int32 × pm_S) :=
    if rcv S a 11 = true then
    ((wF S a 11 0 .int (.int 0)).bind fun S1 =>
    if p0 = 0 then
    ((oI S1 a 11 19).bind fun v30 =>
    some (v30, S1))
    else
    (if p0 = 1 then
    ((oI S1 a 11 2).bind fun v29 =>
    some (v29, S1))
    else
    (if p0 = 2 then
    ((oI S1 a 11 19).bind fun v25 =>
    if v25 = 0 then
    F_M_count_75 N 0 S1
    else
    ((oR S1 a 11 6).bind fun oq26 => match oq26 with
    | none => none
    | some q26 =>
    (aI [0, 6] S1 q26 0).bind fun v27 =>
    F_M_count_75 N v27 S1))
    else
    (if p0 = 3 then
    ((oI S1 a 11 19).bind fun v21 =>
    if v21 = 0 then
    F_M_count_93 N 0 S1
    else
    ((oR S1 a 11 7).bind fun oq22 => match oq22 with
    | none => none
    | some q22 =>
    (aI [0, 6] S1 q22 0).bind fun v23 =>
    F_M_count_93 N v23 S1))
    else
    (if p0 = 4 then
    ((oI S1 a 11 19).bind fun v17 =>
    if v17 = 0 then
    F_M_count_111 N 0 S1
    else
    ((oR S1 a 11 18).bind fun oq18 => match oq18 with
    | none => none
    | some q18 =>
    (aI [0, 6] S1 q18 0).bind fun v19 =>
    F_M_count_111 N v19 S1))
    else
    (if p0 = 5 then
    ((oI S1 a 11 19).bind fun v13 =>
    if v13 = 0 then
    F_M_count_129 N 0 S1
    else
    ((oR S1 a 11 37).bind fun oq14 => match oq14 with
    | none => none
    | some q14 =>
    (aI [0, 6] S1 q14 0).bind fun v15 =>
    F_M_count_129 N v15 S1))
    else
    (if p0 = 6 then
    ((oI S1 a 11 19).bind fun v9 =>
    if v9 = 0 then
    F_M_count_147 N 0 S1
    else
    ((oR S1 a 11 44).bind fun oq10 => match oq10 with
    | none => none
    | some q10 =>
    (aI [0, 6] S1 q10 0).bind fun v11 =>
    F_M_count_147 N v11 S1))
    else
    some ((-1), S1))))))))
    else none
theorem g_M_count {N : Nat} {S : pm_S} {a : Nat} {p0 : Int32} {r : (Int32 × pm_S)} (h : F_M_count N S a p0 = some r) : rcv S a 11 = true := by
  unfold F_M_count at h
  by_cases c : rcv S a 11 = true
  · exact c
  · rw [if_neg c] at h; cases h
set_option maxHeartbeats 4000000 in
set_option maxRecDepth 20000 in
theorem f_M_count (sp : pm_I → List Value → pm_S → pm_O → Prop) (d N : Nat) (S : pm_S) (a : Nat) (p0 : Int32) (r : (Int32 × pm_S)) (h : F_M_count N S a p0 = some r) : pm_rel pG sp (d + 1) mi_M_count [.ref a, .int p0] S (some (.int r.1), r.2) := by
  have hg := g_M_count h
  unfold F_M_count at h
  rw [if_pos hg] at h
  refine pE_rel (d := d + 0) ?_
  show pmE pG _ mi_M_count 0 [some (.ref a), some (.int p0)] [] S _
  refine pE_jump 2 (pc' := 2) (ls' := [some (.ref a), some (.int p0)]) (st' := [.int 0, .ref a]) (fun _ => rfl) ?_
  obtain ⟨S1, hS1, h⟩ := obind h
  refine pE_pf rfl rfl rfl hS1 ?_
  refine pE_jump 1 (pc' := 6) (ls' := [some (.ref a), some (.int p0)]) (st' := [.int p0]) (fun _ => rfl) ?_
  by_cases c2 : p0 = 0
  · rw [if_pos c2] at h
    refine pE_nx (pc' := 48) (ls' := [some (.ref a), some (.int p0)]) (st' := []) (S' := S1) rfl (by rw [c2]; rfl) ?_
    refine pE_jump 1 (pc' := 49) (ls' := [some (.ref a), some (.int p0)]) (st' := [.ref a]) (fun _ => rfl) ?_
    obtain ⟨v30, hv30, h⟩ := obind h
    refine pE_gfI rfl rfl hv30 ?_
    cases h
    exact pE_ret rfl rfl rfl
  · rw [if_neg c2] at h
    by_cases c3 : p0 = 1
    · rw [if_pos c3] at h
      refine pE_nx (pc' := 53) (ls' := [some (.ref a), some (.int p0)]) (st' := []) (S' := S1) rfl (by rw [c3]; rfl) ?_
      refine pE_jump 1 (pc' := 54) (ls' := [some (.ref a), some (.int p0)]) (st' := [.ref a]) (fun _ => rfl) ?_
      obtain ⟨v29, hv29, h⟩ := obind h
      refine pE_gfI rfl rfl hv29 ?_
      cases h
      exact pE_ret rfl rfl rfl
    · rw [if_neg c3] at h
      by_cases c4 : p0 = 2
      · rw [if_pos c4] at h
        refine pE_nx (pc' := 58) (ls' := [some (.ref a), some (.int p0)]) (st' := []) (S' := S1) rfl (by rw [c4]; rfl) ?_
        refine pE_jump 1 (pc' := 59) (ls' := [some (.ref a), some (.int p0)]) (st' := [.ref a]) (fun _ => rfl) ?_
        obtain ⟨v25, hv25, h⟩ := obind h
        refine pE_gfI rfl rfl hv25 ?_
        refine pE_br (¬ v25 = 0) rfl rfl (fun c28 => ?_) (fun c28 => ?_)
        · rw [if_neg c28] at h
          refine pE_jump 1 (pc' := 70) (ls' := [some (.ref a), some (.int p0)]) (st' := [.ref a]) (fun _ => rfl) ?_
          obtain ⟨oq26, hq26, h⟩ := obind h
          cases oq26 with
          | none => cases h
          | some q26 =>
            try dsimp only at h
            refine pE_gfS rfl rfl hq26 ?_
            refine pE_jump 1 (pc' := 74) (ls' := [some (.ref a), some (.int p0)]) (st' := [.int 0, .ref q26]) (fun _ => rfl) ?_
            obtain ⟨v27, hv27, h⟩ := obind h
            refine pE_aI rfl rfl hv27 ?_
            refine pE_weak [none, none] trivial ?_
            exact f_M_count_75 sp d N v27 S1 _ h
        · have c28 := Decidable.not_not.mp c28
          rw [if_pos c28] at h
          refine pE_jump 2 (pc' := 75) (ls' := [some (.ref a), some (.int p0)]) (st' := [.int 0]) (fun _ => rfl) ?_
          refine pE_weak [none, none] trivial ?_
          exact f_M_count_75 sp d N 0 S1 _ h
      · rw [if_neg c4] at h
        by_cases c5 : p0 = 3
        · rw [if_pos c5] at h
          refine pE_nx (pc' := 76) (ls' := [some (.ref a), some (.int p0)]) (st' := []) (S' := S1) rfl (by rw [c5]; rfl) ?_
          refine pE_jump 1 (pc' := 77) (ls' := [some (.ref a), some (.int p0)]) (st' := [.ref a]) (fun _ => rfl) ?_
          obtain ⟨v21, hv21, h⟩ := obind h
          refine pE_gfI rfl rfl hv21 ?_
          refine pE_br (¬ v21 = 0) rfl rfl (fun c24 => ?_) (fun c24 => ?_)
          · rw [if_neg c24] at h
            refine pE_jump 1 (pc' := 88) (ls' := [some (.ref a), some (.int p0)]) (st' := [.ref a]) (fun _ => rfl) ?_
            obtain ⟨oq22, hq22, h⟩ := obind h
            cases oq22 with
            | none => cases h
            | some q22 =>
              try dsimp only at h
              refine pE_gfS rfl rfl hq22 ?_
              refine pE_jump 1 (pc' := 92) (ls' := [some (.ref a), some (.int p0)]) (st' := [.int 0, .ref q22]) (fun _ => rfl) ?_
              obtain ⟨v23, hv23, h⟩ := obind h
              refine pE_aI rfl rfl hv23 ?_
              refine pE_weak [none, none] trivial ?_
              exact f_M_count_93 sp d N v23 S1 _ h
          · have c24 := Decidable.not_not.mp c24
            rw [if_pos c24] at h
            refine pE_jump 2 (pc' := 93) (ls' := [some (.ref a), some (.int p0)]) (st' := [.int 0]) (fun _ => rfl) ?_
            refine pE_weak [none, none] trivial ?_
            exact f_M_count_93 sp d N 0 S1 _ h
        · rw [if_neg c5] at h
          by_cases c6 : p0 = 4
          · rw [if_pos c6] at h
            refine pE_nx (pc' := 94) (ls' := [some (.ref a), some (.int p0)]) (st' := []) (S' := S1) rfl (by rw [c6]; rfl) ?_
            refine pE_jump 1 (pc' := 95) (ls' := [some (.ref a), some (.int p0)]) (st' := [.ref a]) (fun _ => rfl) ?_
            obtain ⟨v17, hv17, h⟩ := obind h
            refine pE_gfI rfl rfl hv17 ?_
            refine pE_br (¬ v17 = 0) rfl rfl (fun c20 => ?_) (fun c20 => ?_)
            · rw [if_neg c20] at h
              refine pE_jump 1 (pc' := 106) (ls' := [some (.ref a), some (.int p0)]) (st' := [.ref a]) (fun _ => rfl) ?_
              obtain ⟨oq18, hq18, h⟩ := obind h
              cases oq18 with
              | none => cases h
              | some q18 =>
                try dsimp only at h
                refine pE_gfS rfl rfl hq18 ?_
                refine pE_jump 1 (pc' := 110) (ls' := [some (.ref a), some (.int p0)]) (st' := [.int 0, .ref q18]) (fun _ => rfl) ?_
                obtain ⟨v19, hv19, h⟩ := obind h
                refine pE_aI rfl rfl hv19 ?_
                refine pE_weak [none, none] trivial ?_
                exact f_M_count_111 sp d N v19 S1 _ h
            · have c20 := Decidable.not_not.mp c20
              rw [if_pos c20] at h
              refine pE_jump 2 (pc' := 111) (ls' := [some (.ref a), some (.int p0)]) (st' := [.int 0]) (fun _ => rfl) ?_
              refine pE_weak [none, none] trivial ?_
              exact f_M_count_111 sp d N 0 S1 _ h
          · rw [if_neg c6] at h
            by_cases c7 : p0 = 5
            · rw [if_pos c7] at h
              refine pE_nx (pc' := 112) (ls' := [some (.ref a), some (.int p0)]) (st' := []) (S' := S1) rfl (by rw [c7]; rfl) ?_
              refine pE_jump 1 (pc' := 113) (ls' := [some (.ref a), some (.int p0)]) (st' := [.ref a]) (fun _ => rfl) ?_
              obtain ⟨v13, hv13, h⟩ := obind h
              refine pE_gfI rfl rfl hv13 ?_
              refine pE_br (¬ v13 = 0) rfl rfl (fun c16 => ?_) (fun c16 => ?_)
              · rw [if_neg c16] at h
                refine pE_jump 1 (pc' := 124) (ls' := [some (.ref a), some (.int p0)]) (st' := [.ref a]) (fun _ => rfl) ?_
                obtain ⟨oq14, hq14, h⟩ := obind h
                cases oq14 with
                | none => cases h
                | some q14 =>
                  try dsimp only at h
                  refine pE_gfS rfl rfl hq14 ?_
                  refine pE_jump 1 (pc' := 128) (ls' := [some (.ref a), some (.int p0)]) (st' := [.int 0, .ref q14]) (fun _ => rfl) ?_
                  obtain ⟨v15, hv15, h⟩ := obind h
                  refine pE_aI rfl rfl hv15 ?_
                  refine pE_weak [none, none] trivial ?_
                  exact f_M_count_129 sp d N v15 S1 _ h
              · have c16 := Decidable.not_not.mp c16
                rw [if_pos c16] at h
                refine pE_jump 2 (pc' := 129) (ls' := [some (.ref a), some (.int p0)]) (st' := [.int 0]) (fun _ => rfl) ?_
                refine pE_weak [none, none] trivial ?_
                exact f_M_count_129 sp d N 0 S1 _ h
            · rw [if_neg c7] at h
              by_cases c8 : p0 = 6
              · rw [if_pos c8] at h
                refine pE_nx (pc' := 130) (ls' := [some (.ref a), some (.int p0)]) (st' := []) (S' := S1) rfl (by rw [c8]; rfl) ?_
                refine pE_jump 1 (pc' := 131) (ls' := [some (.ref a), some (.int p0)]) (st' := [.ref a]) (fun _ => rfl) ?_
                obtain ⟨v9, hv9, h⟩ := obind h
                refine pE_gfI rfl rfl hv9 ?_
                refine pE_br (¬ v9 = 0) rfl rfl (fun c12 => ?_) (fun c12 => ?_)
                · rw [if_neg c12] at h
                  refine pE_jump 1 (pc' := 142) (ls' := [some (.ref a), some (.int p0)]) (st' := [.ref a]) (fun _ => rfl) ?_
                  obtain ⟨oq10, hq10, h⟩ := obind h
                  cases oq10 with
                  | none => cases h
                  | some q10 =>
                    try dsimp only at h
                    refine pE_gfS rfl rfl hq10 ?_
                    refine pE_jump 1 (pc' := 146) (ls' := [some (.ref a), some (.int p0)]) (st' := [.int 0, .ref q10]) (fun _ => rfl) ?_
                    obtain ⟨v11, hv11, h⟩ := obind h
                    refine pE_aI rfl rfl hv11 ?_
                    refine pE_weak [none, none] trivial ?_
                    exact f_M_count_147 sp d N v11 S1 _ h
                · have c12 := Decidable.not_not.mp c12
                  rw [if_pos c12] at h
                  refine pE_jump 2 (pc' := 147) (ls' := [some (.ref a), some (.int p0)]) (st' := [.int 0]) (fun _ => rfl) ?_
                  refine pE_weak [none, none] trivial ?_
                  exact f_M_count_147 sp d N 0 S1 _ h
              · rw [if_neg c8] at h
                refine pE_swD (pc' := 148) rfl (pm_swd6 c2 c3 c4 c5 c6 c7 c8) (by decide) rfl ?_
                refine pE_jump 1 (pc' := 149) (ls' := [some (.ref a), some (.int p0)]) (st' := [.int (-1)]) (fun _ => rfl) ?_
                cases h
                exact pE_ret rfl rfl rfl
