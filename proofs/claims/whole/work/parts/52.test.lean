def F_BP_valueAt_17 (N : Nat)  (t0 : Int32) (S : pm_S) : Option (Int32 × pm_S) :=
    some (t0, S)
set_option maxHeartbeats 4000000 in
set_option maxRecDepth 20000 in
theorem f_BP_valueAt_17 (sp : pm_I → List Value → pm_S → pm_O → Prop) (d N : Nat)  (t0 : Int32) (S : pm_S) (r : (Int32 × pm_S)) (h : F_BP_valueAt_17 N  t0 S = some r) : pmE pG (pm_rel pG sp (d + 0)) mi_BP_valueAt 17 [none, none] [.int t0] S (some (.int r.1), r.2) := by
  unfold F_BP_valueAt_17 at h
  cases h
  exact pE_ret rfl rfl rfl
def F_BP_valueAt_16 (N : Nat)   (S : pm_S) : Option (Int32 × pm_S) :=
    F_BP_valueAt_17 N (-1) S
set_option maxHeartbeats 4000000 in
set_option maxRecDepth 20000 in
theorem f_BP_valueAt_16 (sp : pm_I → List Value → pm_S → pm_O → Prop) (d N : Nat)   (S : pm_S) (r : (Int32 × pm_S)) (h : F_BP_valueAt_16 N   S = some r) : pmE pG (pm_rel pG sp (d + 0)) mi_BP_valueAt 16 [none, none] [] S (some (.int r.1), r.2) := by
  unfold F_BP_valueAt_16 at h
  refine pE_jump 1 (pc' := 17) (ls' := [none, none]) (st' := [.int (-1)]) (fun _ => rfl) ?_
  exact f_BP_valueAt_17 sp d N (-1) S _ h
def F_BP_valueAt (N : Nat) (S : pm_S) (p0 : Nat) (p1 : Int32) : Option (Int32 × pm_S) :=
    if p1 < 0 then
    F_BP_valueAt_16 N S
    else
    ((aNS S p0).bind fun v1 =>
    if v1 ≤ p1 then
    F_BP_valueAt_16 N S
    else
    ((aI [0, 6] S p0 p1).bind fun v2 =>
    F_BP_valueAt_17 N v2 S))
set_option maxHeartbeats 4000000 in
set_option maxRecDepth 20000 in
theorem f_BP_valueAt (sp : pm_I → List Value → pm_S → pm_O → Prop) (d N : Nat) (S : pm_S) (p0 : Nat) (p1 : Int32) (r : (Int32 × pm_S)) (h : F_BP_valueAt N S p0 p1 = some r) : pm_rel pG sp (d + 1) mi_BP_valueAt [.ref p0, .int p1] S (some (.int r.1), r.2) := by
  unfold F_BP_valueAt at h
  refine pE_rel (d := d + 0) ?_
  show pmE pG _ mi_BP_valueAt 0 [some (.ref p0), some (.int p1)] [] S _
  refine pE_jump 1 (pc' := 1) (ls' := [some (.ref p0), some (.int p1)]) (st' := [.int p1]) (fun _ => rfl) ?_
  refine pE_br (p1 < 0) rfl rfl (fun c4 => ?_) (fun c4 => ?_)
  · rw [if_pos c4] at h
    refine pE_weak [none, none] trivial ?_
    exact f_BP_valueAt_16 sp d N S _ h
  · rw [if_neg c4] at h
    refine pE_jump 2 (pc' := 6) (ls' := [some (.ref p0), some (.int p1)]) (st' := [.ref p0, .int p1]) (fun _ => rfl) ?_
    obtain ⟨v1, hv1, h⟩ := obind h
    refine pE_aN rfl hv1 ?_
    refine pE_br (v1 ≤ p1) rfl rfl (fun c3 => ?_) (fun c3 => ?_)
    · rw [if_pos c3] at h
      refine pE_weak [none, none] trivial ?_
      exact f_BP_valueAt_16 sp d N S _ h
    · rw [if_neg c3] at h
      refine pE_jump 2 (pc' := 12) (ls' := [some (.ref p0), some (.int p1)]) (st' := [.int p1, .ref p0]) (fun _ => rfl) ?_
      obtain ⟨v2, hv2, h⟩ := obind h
      refine pE_aI rfl rfl hv2 ?_
      refine pE_jump 1 (pc' := 17) (ls' := [some (.ref p0), some (.int p1)]) (st' := [.int v2]) (fun _ => rfl) ?_
      refine pE_weak [none, none] trivial ?_
      exact f_BP_valueAt_17 sp d N v2 S _ h
