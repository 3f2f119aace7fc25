def F_M_distance_30 (N : Nat)   (S : pm_S) : Option (Int32 × pm_S) :=
    some ((-1), S)
set_option maxHeartbeats 4000000 in
set_option maxRecDepth 20000 in
theorem f_M_distance_30 (sp : pm_I → List Value → pm_S → pm_O → Prop) (d N : Nat)   (S : pm_S)  (r : (Int32 × pm_S)) (h : F_M_distance_30 N   S = some r) : pmE pG (pm_rel pG sp (d + 6)) mi_M_distance 30 [none, none, none, none, none, none, none, none, none, none, none, none] [] S (some (.int r.1), r.2) := by
  unfold F_M_distance_30 at h
  refine pE_jump 1 (pc' := 31) (ls' := [none, none, none, none, none, none, none, none, none, none, none, none]) (st' := [.int (-1)]) (fun _ => rfl) ?_
  cases h
  exact pE_ret rfl rfl rfl
def F_M_distance_234 (N : Nat)  (t0 : Int32) (S : pm_S) : Option (Int32 × pm_S) :=
    some (t0, S)
set_option maxHeartbeats 4000000 in
set_option maxRecDepth 20000 in
theorem f_M_distance_234 (sp : pm_I → List Value → pm_S → pm_O → Prop) (d N : Nat)  (t0 : Int32) (S : pm_S)  (r : (Int32 × pm_S)) (h : F_M_distance_234 N  t0 S = some r) : pmE pG (pm_rel pG sp (d + 6)) mi_M_distance 234 [none, none, none, none, none, none, none, none, none, none, none, none] [.int t0] S (some (.int r.1), r.2) := by
  unfold F_M_distance_234 at h
  cases h
  exact pE_ret rfl rfl rfl
def F_M_distance_222 (N : Nat)  (x5 : Int32) (x6 : Int32) (x7 : Int32) (S : pm_S) : Option (Int32 × pm_S) :=
    if x5 = 0 then
    F_M_distance_234 N x6 S
    else
    F_M_distance_234 N x7 S
set_option maxHeartbeats 4000000 in
set_option maxRecDepth 20000 in
theorem f_M_distance_222 (sp : pm_I → List Value → pm_S → pm_O → Prop) (d N : Nat)  (x5 : Int32) (x6 : Int32) (x7 : Int32) (S : pm_S)  (r : (Int32 × pm_S)) (h : F_M_distance_222 N  x5 x6 x7 S = some r) : pmE pG (pm_rel pG sp (d + 6)) mi_M_distance 222 [none, none, none, none, none, some (.int x5), some (.int x6), some (.int x7), none, none, none, none] [] S (some (.int r.1), r.2) := by
  unfold F_M_distance_222 at h
  refine pE_jump 1 (pc' := 224) (ls' := [none, none, none, none, none, some (.int x5), some (.int x6), some (.int x7), none, none, none, none]) (st' := [.int x5]) (fun _ => rfl) ?_
  refine pE_br (¬ x5 = 0) rfl rfl (fun c8 => ?_) (fun c8 => ?_)
  · rw [if_neg c8] at h
    refine pE_jump 1 (pc' := 234) (ls' := [none, none, none, none, none, some (.int x5), some (.int x6), some (.int x7), none, none, none, none]) (st' := [.int x7]) (fun _ => rfl) ?_
    refine pE_weak [none, none, none, none, none, none, none, none, none, none, none, none] trivial ?_
    exact f_M_distance_234 sp d N x7 S _ h
  · have c8 := Decidable.not_not.mp c8
    rw [if_pos c8] at h
    refine pE_jump 2 (pc' := 234) (ls' := [none, none, none, none, none, some (.int x5), some (.int x6), some (.int x7), none, none, none, none]) (st' := [.int x6]) (fun _ => rfl) ?_
    refine pE_weak [none, none, none, none, none, none, none, none, none, none, none, none] trivial ?_
    exact f_M_distance_234 sp d N x6 S _ h
def F_M_distance_216 (N : Nat) (rec41 : Int32 → Int32 → Int32 → pm_S → Option (Int32 × pm_S)) (x0 : Nat) (x1 : Int32) (x2 : Int32) (x3 : Int32) (x4 : Int32) (x5 : Int32) (x6 : Int32) (x7 : Int32) (x8 : Int32) (S : pm_S) : Option (Int32 × pm_S) :=
    rec41 x6 x7 (x8 + 1) S
set_option maxHeartbeats 4000000 in
set_option maxRecDepth 20000 in
theorem f_M_distance_216 (sp : pm_I → List Value → pm_S → pm_O → Prop) (d N : Nat) (rec41 : Int32 → Int32 → Int32 → pm_S → Option (Int32 × pm_S)) (x0 : Nat) (x1 : Int32) (x2 : Int32) (x3 : Int32) (x4 : Int32) (x5 : Int32) (x6 : Int32) (x7 : Int32) (x8 : Int32) (S : pm_S) (hrec41 : ∀ (y1 : Int32) (y2 : Int32) (y3 : Int32) (U : pm_S) (r : (Int32 × pm_S)), rec41 y1 y2 y3 U = some r → pmE pG (pm_rel pG sp (d + 6)) mi_M_distance 41 [some (.ref x0), some (.int x1), some (.int x2), some (.int x3), some (.int x4), some (.int x5), some (.int y1), some (.int y2), some (.int y3), none, none, none] [] U (some (.int r.1), r.2)) (r : (Int32 × pm_S)) (h : F_M_distance_216 N rec41 x0 x1 x2 x3 x4 x5 x6 x7 x8 S = some r) : pmE pG (pm_rel pG sp (d + 6)) mi_M_distance 216 [some (.ref x0), some (.int x1), some (.int x2), some (.int x3), some (.int x4), some (.int x5), some (.int x6), some (.int x7), some (.int x8), none, none, none] [] S (some (.int r.1), r.2) := by
  unfold F_M_distance_216 at h
  refine pE_jump 2 (pc' := 41) (ls' := [some (.ref x0), some (.int x1), some (.int x2), some (.int x3), some (.int x4), some (.int x5), some (.int x6), some (.int x7), some (.int (x8 + 1)), none, none, none]) (st' := []) (fun _ => rfl) ?_
  exact hrec41 x6 x7 (x8 + 1) S _ h
def F_M_distance_210 (N : Nat) (rec41 : Int32 → Int32 → Int32 → pm_S → Option (Int32 × pm_S)) (x0 : Nat) (x1 : Int32) (x2 : Int32) (x3 : Int32) (x4 : Int32) (x5 : Int32) (x8 : Int32) (t0 : Int32) (S : pm_S) : Option (Int32 × pm_S) :=
    F_M_distance_216 N rec41 x0 x1 x2 x3 x4 x5 t0 x8 x8 S
set_option maxHeartbeats 4000000 in
set_option maxRecDepth 20000 in
theorem f_M_distance_210 (sp : pm_I → List Value → pm_S → pm_O → Prop) (d N : Nat) (rec41 : Int32 → Int32 → Int32 → pm_S → Option (Int32 × pm_S)) (x0 : Nat) (x1 : Int32) (x2 : Int32) (x3 : Int32) (x4 : Int32) (x5 : Int32) (x8 : Int32) (t0 : Int32) (S : pm_S) (hrec41 : ∀ (y1 : Int32) (y2 : Int32) (y3 : Int32) (U : pm_S) (r : (Int32 × pm_S)), rec41 y1 y2 y3 U = some r → pmE pG (pm_rel pG sp (d + 6)) mi_M_distance 41 [some (.ref x0), some (.int x1), some (.int x2), some (.int x3), some (.int x4), some (.int x5), some (.int y1), some (.int y2), some (.int y3), none, none, none] [] U (some (.int r.1), r.2)) (r : (Int32 × pm_S)) (h : F_M_distance_210 N rec41 x0 x1 x2 x3 x4 x5 x8 t0 S = some r) : pmE pG (pm_rel pG sp (d + 6)) mi_M_distance 210 [some (.ref x0), some (.int x1), some (.int x2), some (.int x3), some (.int x4), some (.int x5), none, none, some (.int x8), none, none, none] [.int t0] S (some (.int r.1), r.2) := by
  unfold F_M_distance_210 at h
  refine pE_jump 3 (pc' := 216) (ls' := [some (.ref x0), some (.int x1), some (.int x2), some (.int x3), some (.int x4), some (.int x5), some (.int t0), some (.int x8), some (.int x8), none, none, none]) (st' := []) (fun _ => rfl) ?_
  exact f_M_distance_216 sp d N rec41 x0 x1 x2 x3 x4 x5 t0 x8 x8 S hrec41 _ h
def F_M_distance_189 (N : Nat) (rec41 : Int32 → Int32 → Int32 → pm_S → Option (Int32 × pm_S)) (x0 : Nat) (x1 : Int32) (x2 : Int32) (x3 : Int32) (x4 : Int32) (x5 : Int32) (x6 : Int32) (x7 : Int32) (x8 : Int32) (x9 : Int32) (S : pm_S) : Option (Int32 × pm_S) :=
    if x9 = 0 then
    F_M_distance_216 N rec41 x0 x1 x2 x3 x4 x5 x6 x7 x8 S
    else
    (if x6 = (-1) then
    F_M_distance_210 N rec41 x0 x1 x2 x3 x4 x5 x8 x8 S
    else
    F_M_distance_210 N rec41 x0 x1 x2 x3 x4 x5 x8 x6 S)
set_option maxHeartbeats 4000000 in
set_option maxRecDepth 20000 in
theorem f_M_distance_189 (sp : pm_I → List Value → pm_S → pm_O → Prop) (d N : Nat) (rec41 : Int32 → Int32 → Int32 → pm_S → Option (Int32 × pm_S)) (x0 : Nat) (x1 : Int32) (x2 : Int32) (x3 : Int32) (x4 : Int32) (x5 : Int32) (x6 : Int32) (x7 : Int32) (x8 : Int32) (x9 : Int32) (S : pm_S) (hrec41 : ∀ (y1 : Int32) (y2 : Int32) (y3 : Int32) (U : pm_S) (r : (Int32 × pm_S)), rec41 y1 y2 y3 U = some r → pmE pG (pm_rel pG sp (d + 6)) mi_M_distance 41 [some (.ref x0), some (.int x1), some (.int x2), some (.int x3), some (.int x4), some (.int x5), some (.int y1), some (.int y2), some (.int y3), none, none, none] [] U (some (.int r.1), r.2)) (r : (Int32 × pm_S)) (h : F_M_distance_189 N rec41 x0 x1 x2 x3 x4 x5 x6 x7 x8 x9 S = some r) : pmE pG (pm_rel pG sp (d + 6)) mi_M_distance 189 [some (.ref x0), some (.int x1), some (.int x2), some (.int x3), some (.int x4), some (.int x5), some (.int x6), some (.int x7), some (.int x8), some (.int x9), none, none] [] S (some (.int r.1), r.2) := by
  unfold F_M_distance_189 at h
  refine pE_jump 1 (pc' := 191) (ls' := [some (.ref x0), some (.int x1), some (.int x2), some (.int x3), some (.int x4), some (.int x5), some (.int x6), some (.int x7), some (.int x8), some (.int x9), none, none]) (st' := [.int x9]) (fun _ => rfl) ?_
  refine pE_br (¬ x9 = 0) rfl rfl (fun c16 => ?_) (fun c16 => ?_)
  · rw [if_neg c16] at h
    refine pE_jump 2 (pc' := 200) (ls' := [some (.ref x0), some (.int x1), some (.int x2), some (.int x3), some (.int x4), some (.int x5), some (.int x6), some (.int x7), some (.int x8), some (.int x9), none, none]) (st' := [.int (-1), .int x6]) (fun _ => rfl) ?_
    refine pE_br (¬ x6 = (-1)) rfl rfl (fun c15 => ?_) (fun c15 => ?_)
    · rw [if_neg c15] at h
      refine pE_jump 1 (pc' := 210) (ls' := [some (.ref x0), some (.int x1), some (.int x2), some (.int x3), some (.int x4), some (.int x5), some (.int x6), some (.int x7), some (.int x8), some (.int x9), none, none]) (st' := [.int x6]) (fun _ => rfl) ?_
      refine pE_weak [some (.ref x0), some (.int x1), some (.int x2), some (.int x3), some (.int x4), some (.int x5), none, none, some (.int x8), none, none, none] ⟨rfl, ⟨rfl, ⟨rfl, ⟨rfl, ⟨rfl, ⟨rfl, ⟨rfl, trivial⟩⟩⟩⟩⟩⟩⟩ ?_
      exact f_M_distance_210 sp d N rec41 x0 x1 x2 x3 x4 x5 x8 x6 S hrec41 _ h
    · have c15 := Decidable.not_not.mp c15
      rw [if_pos c15] at h
      refine pE_jump 2 (pc' := 210) (ls' := [some (.ref x0), some (.int x1), some (.int x2), some (.int x3), some (.int x4), some (.int x5), some (.int x6), some (.int x7), some (.int x8), some (.int x9), none, none]) (st' := [.int x8]) (fun _ => rfl) ?_
      refine pE_weak [some (.ref x0), some (.int x1), some (.int x2), some (.int x3), some (.int x4), some (.int x5), none, none, some (.int x8), none, none, none] ⟨rfl, ⟨rfl, ⟨rfl, ⟨rfl, ⟨rfl, ⟨rfl, ⟨rfl, trivial⟩⟩⟩⟩⟩⟩⟩ ?_
      exact f_M_distance_210 sp d N rec41 x0 x1 x2 x3 x4 x5 x8 x8 S hrec41 _ h
  · have c16 := Decidable.not_not.mp c16
    rw [if_pos c16] at h
    refine pE_jump 1 (pc' := 216) (ls' := [some (.ref x0), some (.int x1), some (.int x2), some (.int x3), some (.int x4), some (.int x5), some (.int x6), some (.int x7), some (.int x8), some (.int x9), none, none]) (st' := []) (fun _ => rfl) ?_
    refine pE_weak [some (.ref x0), some (.int x1), some (.int x2), some (.int x3), some (.int x4), some (.int x5), some (.int x6), some (.int x7), some (.int x8), none, none, none] ⟨rfl, ⟨rfl, ⟨rfl, ⟨rfl, ⟨rfl, ⟨rfl, ⟨rfl, ⟨rfl, ⟨rfl, trivial⟩⟩⟩⟩⟩⟩⟩⟩⟩ ?_
    exact f_M_distance_216 sp d N rec41 x0 x1 x2 x3 x4 x5 x6 x7 x8 S hrec41 _ h
def F_M_distance_183 (N : Nat) (rec41 : Int32 → Int32 → Int32 → pm_S → Option (Int32 × pm_S)) (rec86 : Int32 → Int32 → pm_S → Option (Int32 × pm_S)) (x0 : Nat) (x1 : Int32) (x2 : Int32) (x3 : Int32) (x4 : Int32) (x5 : Int32) (x6 : Int32) (x7 : Int32) (x8 : Int32) (x9 : Int32) (x10 : Int32) (S : pm_S) : Option (Int32 × pm_S) :=
    rec86 x9 (x10 + 1) S
set_option maxHeartbeats 4000000 in
set_option maxRecDepth 20000 in
theorem f_M_distance_183 (sp : pm_I → List Value → pm_S → pm_O → Prop) (d N : Nat) (rec41 : Int32 → Int32 → Int32 → pm_S → Option (Int32 × pm_S)) (rec86 : Int32 → Int32 → pm_S → Option (Int32 × pm_S)) (x0 : Nat) (x1 : Int32) (x2 : Int32) (x3 : Int32) (x4 : Int32) (x5 : Int32) (x6 : Int32) (x7 : Int32) (x8 : Int32) (x9 : Int32) (x10 : Int32) (S : pm_S) (hrec41 : ∀ (y1 : Int32) (y2 : Int32) (y3 : Int32) (U : pm_S) (r : (Int32 × pm_S)), rec41 y1 y2 y3 U = some r → pmE pG (pm_rel pG sp (d + 6)) mi_M_distance 41 [some (.ref x0), some (.int x1), some (.int x2), some (.int x3), some (.int x4), some (.int x5), some (.int y1), some (.int y2), some (.int y3), none, none, none] [] U (some (.int r.1), r.2)) (hrec86 : ∀ (y1 : Int32) (y2 : Int32) (U : pm_S) (r : (Int32 × pm_S)), rec86 y1 y2 U = some r → pmE pG (pm_rel pG sp (d + 6)) mi_M_distance 86 [some (.ref x0), some (.int x1), some (.int x2), some (.int x3), some (.int x4), some (.int x5), some (.int x6), some (.int x7), some (.int x8), some (.int y1), some (.int y2), none] [] U (some (.int r.1), r.2)) (r : (Int32 × pm_S)) (h : F_M_distance_183 N rec41 rec86 x0 x1 x2 x3 x4 x5 x6 x7 x8 x9 x10 S = some r) : pmE pG (pm_rel pG sp (d + 6)) mi_M_distance 183 [some (.ref x0), some (.int x1), some (.int x2), some (.int x3), some (.int x4), some (.int x5), some (.int x6), some (.int x7), some (.int x8), some (.int x9), some (.int x10), none] [] S (some (.int r.1), r.2) := by
  unfold F_M_distance_183 at h
  refine pE_jump 2 (pc' := 86) (ls' := [some (.ref x0), some (.int x1), some (.int x2), some (.int x3), some (.int x4), some (.int x5), some (.int x6), some (.int x7), some (.int x8), some (.int x9), some (.int (x10 + 1)), none]) (st' := []) (fun _ => rfl) ?_
  exact hrec86 x9 (x10 + 1) S _ h
def F_M_distance_181 (N : Nat) (rec41 : Int32 → Int32 → Int32 → pm_S → Option (Int32 × pm_S)) (rec86 : Int32 → Int32 → pm_S → Option (Int32 × pm_S)) (x0 : Nat) (x1 : Int32) (x2 : Int32) (x3 : Int32) (x4 : Int32) (x5 : Int32) (x6 : Int32) (x7 : Int32) (x8 : Int32) (x10 : Int32) (t0 : Int32) (S : pm_S) : Option (Int32 × pm_S) :=
    F_M_distance_183 N rec41 rec86 x0 x1 x2 x3 x4 x5 x6 x7 x8 t0 x10 S
set_option maxHeartbeats 4000000 in
set_option maxRecDepth 20000 in
theorem f_M_distance_181 (sp : pm_I → List Value → pm_S → pm_O → Prop) (d N : Nat) (rec41 : Int32 → Int32 → Int32 → pm_S → Option (Int32 × pm_S)) (rec86 : Int32 → Int32 → pm_S → Option (Int32 × pm_S)) (x0 : Nat) (x1 : Int32) (x2 : Int32) (x3 : Int32) (x4 : Int32) (x5 : Int32) (x6 : Int32) (x7 : Int32) (x8 : Int32) (x10 : Int32) (t0 : Int32) (S : pm_S) (hrec41 : ∀ (y1 : Int32) (y2 : Int32) (y3 : Int32) (U : pm_S) (r : (Int32 × pm_S)), rec41 y1 y2 y3 U = some r → pmE pG (pm_rel pG sp (d + 6)) mi_M_distance 41 [some (.ref x0), some (.int x1), some (.int x2), some (.int x3), some (.int x4), some (.int x5), some (.int y1), some (.int y2), some (.int y3), none, none, none] [] U (some (.int r.1), r.2)) (hrec86 : ∀ (y1 : Int32) (y2 : Int32) (U : pm_S) (r : (Int32 × pm_S)), rec86 y1 y2 U = some r → pmE pG (pm_rel pG sp (d + 6)) mi_M_distance 86 [some (.ref x0), some (.int x1), some (.int x2), some (.int x3), some (.int x4), some (.int x5), some (.int x6), some (.int x7), some (.int x8), some (.int y1), some (.int y2), none] [] U (some (.int r.1), r.2)) (r : (Int32 × pm_S)) (h : F_M_distance_181 N rec41 rec86 x0 x1 x2 x3 x4 x5 x6 x7 x8 x10 t0 S = some r) : pmE pG (pm_rel pG sp (d + 6)) mi_M_distance 181 [some (.ref x0), some (.int x1), some (.int x2), some (.int x3), some (.int x4), some (.int x5), some (.int x6), some (.int x7), some (.int x8), none, some (.int x10), none] [.int t0] S (some (.int r.1), r.2) := by
  unfold F_M_distance_181 at h
  refine pE_jump 1 (pc' := 183) (ls' := [some (.ref x0), some (.int x1), some (.int x2), some (.int x3), some (.int x4), some (.int x5), some (.int x6), some (.int x7), some (.int x8), some (.int t0), some (.int x10), none]) (st' := []) (fun _ => rfl) ?_
  exact f_M_distance_183 sp d N rec41 rec86 x0 x1 x2 x3 x4 x5 x6 x7 x8 t0 x10 S hrec41 hrec86 _ h
def F_M_distance_180 (N : Nat) (rec41 : Int32 → Int32 → Int32 → pm_S → Option (Int32 × pm_S)) (rec86 : Int32 → Int32 → pm_S → Option (Int32 × pm_S)) (x0 : Nat) (x1 : Int32) (x2 : Int32) (x3 : Int32) (x4 : Int32) (x5 : Int32) (x6 : Int32) (x7 : Int32) (x8 : Int32) (x10 : Int32) (S : pm_S) : Option (Int32 × pm_S) :=
    F_M_distance_181 N rec41 rec86 x0 x1 x2 x3 x4 x5 x6 x7 x8 x10 0 S
set_option maxHeartbeats 4000000 in
set_option maxRecDepth 20000 in
theorem f_M_distance_180 (sp : pm_I → List Value → pm_S → pm_O → Prop) (d N : Nat) (rec41 : Int32 → Int32 → Int32 → pm_S → Option (Int32 × pm_S)) (rec86 : Int32 → Int32 → pm_S → Option (Int32 × pm_S)) (x0 : Nat) (x1 : Int32) (x2 : Int32) (x3 : Int32) (x4 : Int32) (x5 : Int32) (x6 : Int32) (x7 : Int32) (x8 : Int32) (x10 : Int32) (S : pm_S) (hrec41 : ∀ (y1 : Int32) (y2 : Int32) (y3 : Int32) (U : pm_S) (r : (Int32 × pm_S)), rec41 y1 y2 y3 U = some r → pmE pG (pm_rel pG sp (d + 6)) mi_M_distance 41 [some (.ref x0), some (.int x1), some (.int x2), some (.int x3), some (.int x4), some (.int x5), some (.int y1), some (.int y2), some (.int y3), none, none, none] [] U (some (.int r.1), r.2)) (hrec86 : ∀ (y1 : Int32) (y2 : Int32) (U : pm_S) (r : (Int32 × pm_S)), rec86 y1 y2 U = some r → pmE pG (pm_rel pG sp (d + 6)) mi_M_distance 86 [some (.ref x0), some (.int x1), some (.int x2), some (.int x3), some (.int x4), some (.int x5), some (.int x6), some (.int x7), some (.int x8), some (.int y1), some (.int y2), none] [] U (some (.int r.1), r.2)) (r : (Int32 × pm_S)) (h : F_M_distance_180 N rec41 rec86 x0 x1 x2 x3 x4 x5 x6 x7 x8 x10 S = some r) : pmE pG (pm_rel pG sp (d + 6)) mi_M_distance 180 [some (.ref x0), some (.int x1), some (.int x2), some (.int x3), some (.int x4), some (.int x5), some (.int x6), some (.int x7), some (.int x8), none, some (.int x10), none] [] S (some (.int r.1), r.2) := by
  unfold F_M_distance_180 at h
  refine pE_jump 1 (pc' := 181) (ls' := [some (.ref x0), some (.int x1), some (.int x2), some (.int x3), some (.int x4), some (.int x5), some (.int x6), some (.int x7), some (.int x8), none, some (.int x10), none]) (st' := [.int 0]) (fun _ => rfl) ?_
  exact f_M_distance_181 sp d N rec41 rec86 x0 x1 x2 x3 x4 x5 x6 x7 x8 x10 0 S hrec41 hrec86 _ h
def B_M_distance_86 (N : Nat) (rec41 : Int32 → Int32 → Int32 → pm_S → Option (Int32 × pm_S)) (rec86 : Int32 → Int32 → pm_S → Option (Int32 × pm_S)) (x0 : Nat) (x1 : Int32) (x2 : Int32) (x3 : Int32) (x4 : Int32) (x5 : Int32) (x6 : Int32) (x7 : Int32) (x8 : Int32) (x9 : Int32) (x10 : Int32) (S : pm_S) : Option (Int32 × pm_S) :=
    (oR S x0 11 44).bind fun oq13 => match oq13 with
    | none => none
    | some q13 =>
    (aI [0, 6] S q13 x1).bind fun v14 =>
    if v14 ≤ x10 then
    F_M_distance_189 N rec41 x0 x1 x2 x3 x4 x5 x6 x7 x8 x9 S
    else
    ((oR S x0 11 47).bind fun oq17 => match oq17 with
    | none => none
    | some q17 =>
    (aI [2, 3] S q17 ((24 * x1) + x10)).bind fun v18 =>
    if v18 = 0 then
    ((oR S x0 11 38).bind fun oq19 => match oq19 with
    | none => none
    | some q19 =>
    (oR S x0 11 45).bind fun oq22 => match oq22 with
    | none => none
    | some q22 =>
    (aI [0, 6] S q22 ((24 * x1) + x10)).bind fun v23 =>
    (aI [0, 6] S q19 ((12 * x1) + v23)).bind fun v24 =>
    if v24 = 1 then
    (if x9 = 0 then
    F_M_distance_180 N rec41 rec86 x0 x1 x2 x3 x4 x5 x6 x7 x8 x10 S
    else
    ((oR S x0 11 46).bind fun oq25 => match oq25 with
    | none => none
    | some q25 =>
    (aI [0, 6] S q25 ((24 * x1) + x10)).bind fun v26 =>
    (oR S x0 11 45).bind fun oq27 => match oq27 with
    | none => none
    | some q27 =>
    (aI [0, 6] S q27 ((24 * x1) + x10)).bind fun v28 =>
    (F_M_would N S x0 v28).bind fun (v30, S29) =>
    if x4 < (if 0 ≤ ((v26 / 4) - (v30 / 4)) then ((v26 / 4) - (v30 / 4)) else 0 - ((v26 / 4) - (v30 / 4))) then
    F_M_distance_180 N rec41 rec86 x0 x1 x2 x3 x4 x5 x6 x7 x8 x10 S29
    else
    F_M_distance_181 N rec41 rec86 x0 x1 x2 x3 x4 x5 x6 x7 x8 x10 1 S29))
    else
    F_M_distance_183 N rec41 rec86 x0 x1 x2 x3 x4 x5 x6 x7 x8 x9 x10 S)
    else
    F_M_distance_183 N rec41 rec86 x0 x1 x2 x3 x4 x5 x6 x7 x8 x9 x10 S)
def F_M_distance_86 (N : Nat) (rec41 : Int32 → Int32 → Int32 → pm_S → Option (Int32 × pm_S)) (x0 : Nat) (x1 : Int32) (x2 : Int32) (x3 : Int32) (x4 : Int32) (x5 : Int32) (x6 : Int32) (x7 : Int32) (x8 : Int32) : Nat → Int32 → Int32 → pm_S → Option (Int32 × pm_S)
  | 0 => fun _ _ _ => none
  | n + 1 => fun x9 x10 S => B_M_distance_86 N rec41 (F_M_distance_86 N rec41 x0 x1 x2 x3 x4 x5 x6 x7 x8 n) x0 x1 x2 x3 x4 x5 x6 x7 x8 x9 x10 S
set_option maxHeartbeats 4000000 in
set_option maxRecDepth 20000 in
theorem f_M_distance_86 (sp : pm_I → List Value → pm_S → pm_O → Prop) (d N : Nat) (rec41 : Int32 → Int32 → Int32 → pm_S → Option (Int32 × pm_S)) (x0 : Nat) (x1 : Int32) (x2 : Int32) (x3 : Int32) (x4 : Int32) (x5 : Int32) (x6 : Int32) (x7 : Int32) (x8 : Int32) (hrec41 : ∀ (y1 : Int32) (y2 : Int32) (y3 : Int32) (U : pm_S) (r : (Int32 × pm_S)), rec41 y1 y2 y3 U = some r → pmE pG (pm_rel pG sp (d + 6)) mi_M_distance 41 [some (.ref x0), some (.int x1), some (.int x2), some (.int x3), some (.int x4), some (.int x5), some (.int y1), some (.int y2), some (.int y3), none, none, none] [] U (some (.int r.1), r.2)) : ∀ (n : Nat) (x9 : Int32) (x10 : Int32) (S : pm_S) (r : (Int32 × pm_S)), F_M_distance_86 N rec41 x0 x1 x2 x3 x4 x5 x6 x7 x8 n x9 x10 S = some r → pmE pG (pm_rel pG sp (d + 6)) mi_M_distance 86 [some (.ref x0), some (.int x1), some (.int x2), some (.int x3), some (.int x4), some (.int x5), some (.int x6), some (.int x7), some (.int x8), some (.int x9), some (.int x10), none] [] S (some (.int r.1), r.2) := by
  intro n
  induction n with
  | zero =>
    intro x9 x10 S r h
    cases h
  | succ n ih =>
    intro x9 x10 S r h
    replace h : B_M_distance_86 N rec41 (F_M_distance_86 N rec41 x0 x1 x2 x3 x4 x5 x6 x7 x8 n) x0 x1 x2 x3 x4 x5 x6 x7 x8 x9 x10 S = some r := h
    have hrec86 := ih
    generalize F_M_distance_86 N rec41 x0 x1 x2 x3 x4 x5 x6 x7 x8 n = rec86 at h hrec86
    unfold B_M_distance_86 at h
    refine pE_jump 2 (pc' := 89) (ls' := [some (.ref x0), some (.int x1), some (.int x2), some (.int x3), some (.int x4), some (.int x5), some (.int x6), some (.int x7), some (.int x8), some (.int x9), some (.int x10), none]) (st' := [.ref x0, .int x10]) (fun _ => rfl) ?_
    obtain ⟨oq13, hq13, h⟩ := obind h
    cases oq13 with
    | none => cases h
    | some q13 =>
      try dsimp only at h
      refine pE_gfS rfl rfl hq13 ?_
      refine pE_jump 1 (pc' := 93) (ls' := [some (.ref x0), some (.int x1), some (.int x2), some (.int x3), some (.int x4), some (.int x5), some (.int x6), some (.int x7), some (.int x8), some (.int x9), some (.int x10), none]) (st' := [.int x1, .ref q13, .int x10]) (fun _ => rfl) ?_
      obtain ⟨v14, hv14, h⟩ := obind h
      refine pE_aI rfl rfl hv14 ?_
      refine pE_br (v14 ≤ x10) rfl rfl (fun c35 => ?_) (fun c35 => ?_)
      · rw [if_pos c35] at h
        refine pE_weak [some (.ref x0), some (.int x1), some (.int x2), some (.int x3), some (.int x4), some (.int x5), some (.int x6), some (.int x7), some (.int x8), some (.int x9), none, none] ⟨rfl, ⟨rfl, ⟨rfl, ⟨rfl, ⟨rfl, ⟨rfl, ⟨rfl, ⟨rfl, ⟨rfl, ⟨rfl, trivial⟩⟩⟩⟩⟩⟩⟩⟩⟩⟩ ?_
        exact f_M_distance_189 sp d N rec41 x0 x1 x2 x3 x4 x5 x6 x7 x8 x9 S hrec41 _ h
      · rw [if_neg c35] at h
        refine pE_jump 7 (pc' := 107) (ls' := [some (.ref x0), some (.int x1), some (.int x2), some (.int x3), some (.int x4), some (.int x5), some (.int x6), some (.int x7), some (.int x8), some (.int x9), some (.int x10), some (.int ((24 * x1) + x10))]) (st' := [.ref x0]) (fun _ => rfl) ?_
        obtain ⟨oq17, hq17, h⟩ := obind h
        cases oq17 with
        | none => cases h
        | some q17 =>
          try dsimp only at h
          refine pE_gfS rfl rfl hq17 ?_
          refine pE_jump 1 (pc' := 112) (ls' := [some (.ref x0), some (.int x1), some (.int x2), some (.int x3), some (.int x4), some (.int x5), some (.int x6), some (.int x7), some (.int x8), some (.int x9), some (.int x10), some (.int ((24 * x1) + x10))]) (st' := [.int ((24 * x1) + x10), .ref q17]) (fun _ => rfl) ?_
          obtain ⟨v18, hv18, h⟩ := obind h
          refine pE_aI rfl rfl hv18 ?_
          refine pE_br (¬ v18 = 0) rfl rfl (fun c34 => ?_) (fun c34 => ?_)
          · rw [if_neg c34] at h
            refine pE_weak [some (.ref x0), some (.int x1), some (.int x2), some (.int x3), some (.int x4), some (.int x5), some (.int x6), some (.int x7), some (.int x8), some (.int x9), some (.int x10), none] ⟨rfl, ⟨rfl, ⟨rfl, ⟨rfl, ⟨rfl, ⟨rfl, ⟨rfl, ⟨rfl, ⟨rfl, ⟨rfl, ⟨rfl, trivial⟩⟩⟩⟩⟩⟩⟩⟩⟩⟩⟩ ?_
            exact f_M_distance_183 sp d N rec41 rec86 x0 x1 x2 x3 x4 x5 x6 x7 x8 x9 x10 S hrec41 hrec86 _ h
          · have c34 := Decidable.not_not.mp c34
            rw [if_pos c34] at h
            refine pE_jump 1 (pc' := 117) (ls' := [some (.ref x0), some (.int x1), some (.int x2), some (.int x3), some (.int x4), some (.int x5), some (.int x6), some (.int x7), some (.int x8), some (.int x9), some (.int x10), some (.int ((24 * x1) + x10))]) (st' := [.ref x0]) (fun _ => rfl) ?_
            obtain ⟨oq19, hq19, h⟩ := obind h
            cases oq19 with
            | none => cases h
            | some q19 =>
              try dsimp only at h
              refine pE_gfS rfl rfl hq19 ?_
              refine pE_jump 4 (pc' := 125) (ls' := [some (.ref x0), some (.int x1), some (.int x2), some (.int x3), some (.int x4), some (.int x5), some (.int x6), some (.int x7), some (.int x8), some (.int x9), some (.int x10), some (.int ((24 * x1) + x10))]) (st' := [.ref x0, .int (12 * x1), .ref q19]) (fun _ => rfl) ?_
              obtain ⟨oq22, hq22, h⟩ := obind h
              cases oq22 with
              | none => cases h
              | some q22 =>
                try dsimp only at h
                refine pE_gfS rfl rfl hq22 ?_
                refine pE_jump 1 (pc' := 130) (ls' := [some (.ref x0), some (.int x1), some (.int x2), some (.int x3), some (.int x4), some (.int x5), some (.int x6), some (.int x7), some (.int x8), some (.int x9), some (.int x10), some (.int ((24 * x1) + x10))]) (st' := [.int ((24 * x1) + x10), .ref q22, .int (12 * x1), .ref q19]) (fun _ => rfl) ?_
                obtain ⟨v23, hv23, h⟩ := obind h
                refine pE_aI rfl rfl hv23 ?_
                refine pE_jump 1 (pc' := 132) (ls' := [some (.ref x0), some (.int x1), some (.int x2), some (.int x3), some (.int x4), some (.int x5), some (.int x6), some (.int x7), some (.int x8), some (.int x9), some (.int x10), some (.int ((24 * x1) + x10))]) (st' := [.int ((12 * x1) + v23), .ref q19]) (fun _ => rfl) ?_
                obtain ⟨v24, hv24, h⟩ := obind h
                refine pE_aI rfl rfl hv24 ?_
                refine pE_jump 1 (pc' := 134) (ls' := [some (.ref x0), some (.int x1), some (.int x2), some (.int x3), some (.int x4), some (.int x5), some (.int x6), some (.int x7), some (.int x8), some (.int x9), some (.int x10), some (.int ((24 * x1) + x10))]) (st' := [.int 1, .int v24]) (fun _ => rfl) ?_
                refine pE_br (v24 = 1) rfl rfl (fun c33 => ?_) (fun c33 => ?_)
                · rw [if_pos c33] at h
                  refine pE_jump 1 (pc' := 142) (ls' := [some (.ref x0), some (.int x1), some (.int x2), some (.int x3), some (.int x4), some (.int x5), some (.int x6), some (.int x7), some (.int x8), some (.int x9), some (.int x10), some (.int ((24 * x1) + x10))]) (st' := [.int x9]) (fun _ => rfl) ?_
                  refine pE_br (x9 = 0) rfl rfl (fun c32 => ?_) (fun c32 => ?_)
                  · rw [if_pos c32] at h
                    refine pE_weak [some (.ref x0), some (.int x1), some (.int x2), some (.int x3), some (.int x4), some (.int x5), some (.int x6), some (.int x7), some (.int x8), none, some (.int x10), none] ⟨rfl, ⟨rfl, ⟨rfl, ⟨rfl, ⟨rfl, ⟨rfl, ⟨rfl, ⟨rfl, ⟨rfl, ⟨rfl, trivial⟩⟩⟩⟩⟩⟩⟩⟩⟩⟩ ?_
                    exact f_M_distance_180 sp d N rec41 rec86 x0 x1 x2 x3 x4 x5 x6 x7 x8 x10 S hrec41 hrec86 _ h
                  · rw [if_neg c32] at h
                    refine pE_jump 1 (pc' := 146) (ls' := [some (.ref x0), some (.int x1), some (.int x2), some (.int x3), some (.int x4), some (.int x5), some (.int x6), some (.int x7), some (.int x8), some (.int x9), some (.int x10), some (.int ((24 * x1) + x10))]) (st' := [.ref x0]) (fun _ => rfl) ?_
                    obtain ⟨oq25, hq25, h⟩ := obind h
                    cases oq25 with
                    | none => cases h
                    | some q25 =>
                      try dsimp only at h
                      refine pE_gfS rfl rfl hq25 ?_
                      refine pE_jump 1 (pc' := 151) (ls' := [some (.ref x0), some (.int x1), some (.int x2), some (.int x3), some (.int x4), some (.int x5), some (.int x6), some (.int x7), some (.int x8), some (.int x9), some (.int x10), some (.int ((24 * x1) + x10))]) (st' := [.int ((24 * x1) + x10), .ref q25]) (fun _ => rfl) ?_
                      obtain ⟨v26, hv26, h⟩ := obind h
                      refine pE_aI rfl rfl hv26 ?_
                      refine pE_jump 1 (pc' := 153) (ls' := [some (.ref x0), some (.int x1), some (.int x2), some (.int x3), some (.int x4), some (.int x5), some (.int x6), some (.int x7), some (.int x8), some (.int x9), some (.int x10), some (.int ((24 * x1) + x10))]) (st' := [.int 4, .int v26]) (fun _ => rfl) ?_
                      refine pE_jump 1 (pc' := 154) (ls' := [some (.ref x0), some (.int x1), some (.int x2), some (.int x3), some (.int x4), some (.int x5), some (.int x6), some (.int x7), some (.int x8), some (.int x9), some (.int x10), some (.int ((24 * x1) + x10))]) (st' := [.int (v26 / 4)]) (fun _ => rfl) ?_
                      refine pE_jump 2 (pc' := 156) (ls' := [some (.ref x0), some (.int x1), some (.int x2), some (.int x3), some (.int x4), some (.int x5), some (.int x6), some (.int x7), some (.int x8), some (.int x9), some (.int x10), some (.int ((24 * x1) + x10))]) (st' := [.ref x0, .ref x0, .int (v26 / 4)]) (fun _ => rfl) ?_
                      obtain ⟨oq27, hq27, h⟩ := obind h
                      cases oq27 with
                      | none => cases h
                      | some q27 =>
                        try dsimp only at h
                        refine pE_gfS rfl rfl hq27 ?_
                        refine pE_jump 1 (pc' := 161) (ls' := [some (.ref x0), some (.int x1), some (.int x2), some (.int x3), some (.int x4), some (.int x5), some (.int x6), some (.int x7), some (.int x8), some (.int x9), some (.int x10), some (.int ((24 * x1) + x10))]) (st' := [.int ((24 * x1) + x10), .ref q27, .ref x0, .int (v26 / 4)]) (fun _ => rfl) ?_
                        obtain ⟨v28, hv28, h⟩ := obind h
                        refine pE_aI rfl rfl hv28 ?_
                        obtain ⟨⟨v30, S29⟩, hv30, h⟩ := obind h
                        try dsimp only at h
                        refine pE_iv (Bs := [.int v28]) (st := [.int (v26 / 4)]) 1 rfl (Or.inl ⟨rfl, rfl⟩) rfl rfl (Nat.le_of_ble_eq_true rfl) (Nat.le_of_ble_eq_true rfl) (g_M_would hv30) (f_M_would sp d N S x0 v28 _ hv30) ?_
                        refine pE_jump 1 (pc' := 166) (ls' := [some (.ref x0), some (.int x1), some (.int x2), some (.int x3), some (.int x4), some (.int x5), some (.int x6), some (.int x7), some (.int x8), some (.int x9), some (.int x10), some (.int ((24 * x1) + x10))]) (st' := [.int 4, .int v30, .int (v26 / 4)]) (fun _ => rfl) ?_
                        refine pE_jump 1 (pc' := 167) (ls' := [some (.ref x0), some (.int x1), some (.int x2), some (.int x3), some (.int x4), some (.int x5), some (.int x6), some (.int x7), some (.int x8), some (.int x9), some (.int x10), some (.int ((24 * x1) + x10))]) (st' := [.int (v30 / 4), .int (v26 / 4)]) (fun _ => rfl) ?_
                        refine pE_jump 1 (pc' := 168) (ls' := [some (.ref x0), some (.int x1), some (.int x2), some (.int x3), some (.int x4), some (.int x5), some (.int x6), some (.int x7), some (.int x8), some (.int x9), some (.int x10), some (.int ((24 * x1) + x10))]) (st' := [.int ((v26 / 4) - (v30 / 4))]) (fun _ => rfl) ?_
                        refine pE_mb rfl rfl (Nat.le_of_ble_eq_true rfl) ?_
                        refine pE_jump 1 (pc' := 173) (ls' := [some (.ref x0), some (.int x1), some (.int x2), some (.int x3), some (.int x4), some (.int x5), some (.int x6), some (.int x7), some (.int x8), some (.int x9), some (.int x10), some (.int ((24 * x1) + x10))]) (st' := [.int x4, .int (if 0 ≤ ((v26 / 4) - (v30 / 4)) then ((v26 / 4) - (v30 / 4)) else 0 - ((v26 / 4) - (v30 / 4)))]) (fun _ => rfl) ?_
                        refine pE_br (x4 < (if 0 ≤ ((v26 / 4) - (v30 / 4)) then ((v26 / 4) - (v30 / 4)) else 0 - ((v26 / 4) - (v30 / 4)))) rfl rfl (fun c31 => ?_) (fun c31 => ?_)
                        · rw [if_pos c31] at h
                          refine pE_weak [some (.ref x0), some (.int x1), some (.int x2), some (.int x3), some (.int x4), some (.int x5), some (.int x6), some (.int x7), some (.int x8), none, some (.int x10), none] ⟨rfl, ⟨rfl, ⟨rfl, ⟨rfl, ⟨rfl, ⟨rfl, ⟨rfl, ⟨rfl, ⟨rfl, ⟨rfl, trivial⟩⟩⟩⟩⟩⟩⟩⟩⟩⟩ ?_
                          exact f_M_distance_180 sp d N rec41 rec86 x0 x1 x2 x3 x4 x5 x6 x7 x8 x10 S29 hrec41 hrec86 _ h
                        · rw [if_neg c31] at h
                          refine pE_jump 2 (pc' := 181) (ls' := [some (.ref x0), some (.int x1), some (.int x2), some (.int x3), some (.int x4), some (.int x5), some (.int x6), some (.int x7), some (.int x8), some (.int x9), some (.int x10), some (.int ((24 * x1) + x10))]) (st' := [.int 1]) (fun _ => rfl) ?_
                          refine pE_weak [some (.ref x0), some (.int x1), some (.int x2), some (.int x3), some (.int x4), some (.int x5), some (.int x6), some (.int x7), some (.int x8), none, some (.int x10), none] ⟨rfl, ⟨rfl, ⟨rfl, ⟨rfl, ⟨rfl, ⟨rfl, ⟨rfl, ⟨rfl, ⟨rfl, ⟨rfl, trivial⟩⟩⟩⟩⟩⟩⟩⟩⟩⟩ ?_
                          exact f_M_distance_181 sp d N rec41 rec86 x0 x1 x2 x3 x4 x5 x6 x7 x8 x10 1 S29 hrec41 hrec86 _ h
                · rw [if_neg c33] at h
                  refine pE_jump 1 (pc' := 183) (ls' := [some (.ref x0), some (.int x1), some (.int x2), some (.int x3), some (.int x4), some (.int x5), some (.int x6), some (.int x7), some (.int x8), some (.int x9), some (.int x10), some (.int ((24 * x1) + x10))]) (st' := []) (fun _ => rfl) ?_
                  refine pE_weak [some (.ref x0), some (.int x1), some (.int x2), some (.int x3), some (.int x4), some (.int x5), some (.int x6), some (.int x7), some (.int x8), some (.int x9), some (.int x10), none] ⟨rfl, ⟨rfl, ⟨rfl, ⟨rfl, ⟨rfl, ⟨rfl, ⟨rfl, ⟨rfl, ⟨rfl, ⟨rfl, ⟨rfl, trivial⟩⟩⟩⟩⟩⟩⟩⟩⟩⟩⟩ ?_
                  exact f_M_distance_183 sp d N rec41 rec86 x0 x1 x2 x3 x4 x5 x6 x7 x8 x9 x10 S hrec41 hrec86 _ h
def B_M_distance_41 (N : Nat)  (rec41 : Int32 → Int32 → Int32 → pm_S → Option (Int32 × pm_S)) (x0 : Nat) (x1 : Int32) (x2 : Int32) (x3 : Int32) (x4 : Int32) (x5 : Int32) (x6 : Int32) (x7 : Int32) (x8 : Int32) (S : pm_S) : Option (Int32 × pm_S) :=
    (oR S x0 11 11).bind fun oq6 => match oq6 with
    | none => none
    | some q6 =>
    (aI [0, 6] S q6 ((7 * x1) + x2)).bind fun v7 =>
    if v7 < x8 then
    F_M_distance_222 N x5 x6 x7 S
    else
    ((F_M_lay N S x0 x1 0 0).bind fun S9 =>
    (wF S9 x0 11 31 .int (.int x2)).bind fun S10 =>
    (wF S10 x0 11 32 .int (.int x3)).bind fun S11 =>
    (wF S11 x0 11 33 .int (.int x8)).bind fun S12 =>
    F_M_distance_86 N rec41 x0 x1 x2 x3 x4 x5 x6 x7 x8 N 1 0 S12)
def F_M_distance_41 (N : Nat)  (x0 : Nat) (x1 : Int32) (x2 : Int32) (x3 : Int32) (x4 : Int32) (x5 : Int32) : Nat → Int32 → Int32 → Int32 → pm_S → Option (Int32 × pm_S)
  | 0 => fun _ _ _ _ => none
  | n + 1 => fun x6 x7 x8 S => B_M_distance_41 N  (F_M_distance_41 N  x0 x1 x2 x3 x4 x5 n) x0 x1 x2 x3 x4 x5 x6 x7 x8 S
set_option maxHeartbeats 4000000 in
set_option maxRecDepth 20000 in
theorem f_M_distance_41 (sp : pm_I → List Value → pm_S → pm_O → Prop) (d N : Nat)  (x0 : Nat) (x1 : Int32) (x2 : Int32) (x3 : Int32) (x4 : Int32) (x5 : Int32)  : ∀ (n : Nat) (x6 : Int32) (x7 : Int32) (x8 : Int32) (S : pm_S) (r : (Int32 × pm_S)), F_M_distance_41 N  x0 x1 x2 x3 x4 x5 n x6 x7 x8 S = some r → pmE pG (pm_rel pG sp (d + 6)) mi_M_distance 41 [some (.ref x0), some (.int x1), some (.int x2), some (.int x3), some (.int x4), some (.int x5), some (.int x6), some (.int x7), some (.int x8), none, none, none] [] S (some (.int r.1), r.2) := by
  intro n
  induction n with
  | zero =>
    intro x6 x7 x8 S r h
    cases h
  | succ n ih =>
    intro x6 x7 x8 S r h
    replace h : B_M_distance_41 N  (F_M_distance_41 N  x0 x1 x2 x3 x4 x5 n) x0 x1 x2 x3 x4 x5 x6 x7 x8 S = some r := h
    have hrec41 := ih
    generalize F_M_distance_41 N  x0 x1 x2 x3 x4 x5 n = rec41 at h hrec41
    unfold B_M_distance_41 at h
    refine pE_jump 2 (pc' := 44) (ls' := [some (.ref x0), some (.int x1), some (.int x2), some (.int x3), some (.int x4), some (.int x5), some (.int x6), some (.int x7), some (.int x8), none, none, none]) (st' := [.ref x0, .int x8]) (fun _ => rfl) ?_
    obtain ⟨oq6, hq6, h⟩ := obind h
    cases oq6 with
    | none => cases h
    | some q6 =>
      try dsimp only at h
      refine pE_gfS rfl rfl hq6 ?_
      refine pE_jump 5 (pc' := 53) (ls' := [some (.ref x0), some (.int x1), some (.int x2), some (.int x3), some (.int x4), some (.int x5), some (.int x6), some (.int x7), some (.int x8), none, none, none]) (st' := [.int ((7 * x1) + x2), .ref q6, .int x8]) (fun _ => rfl) ?_
      obtain ⟨v7, hv7, h⟩ := obind h
      refine pE_aI rfl rfl hv7 ?_
      refine pE_br (v7 < x8) rfl rfl (fun c36 => ?_) (fun c36 => ?_)
      · rw [if_pos c36] at h
        refine pE_weak [none, none, none, none, none, some (.int x5), some (.int x6), some (.int x7), none, none, none, none] ⟨rfl, ⟨rfl, ⟨rfl, trivial⟩⟩⟩ ?_
        exact f_M_distance_222 sp d N x5 x6 x7 S _ h
      · rw [if_neg c36] at h
        refine pE_jump 4 (pc' := 61) (ls' := [some (.ref x0), some (.int x1), some (.int x2), some (.int x3), some (.int x4), some (.int x5), some (.int x6), some (.int x7), some (.int x8), none, none, none]) (st' := [.int 0, .int 0, .int x1, .ref x0]) (fun _ => rfl) ?_
        obtain ⟨S9, hS9, h⟩ := obind h
        refine pE_iv (Bs := [.int x1, .int 0, .int 0]) (st := []) 1 rfl (Or.inl ⟨rfl, rfl⟩) rfl rfl (Nat.le_of_ble_eq_true rfl) (Nat.le_of_ble_eq_true rfl) (g_M_lay hS9) (f_M_lay sp (d + 3) N S x0 x1 0 0 _ hS9) ?_
        refine pE_jump 2 (pc' := 66) (ls' := [some (.ref x0), some (.int x1), some (.int x2), some (.int x3), some (.int x4), some (.int x5), some (.int x6), some (.int x7), some (.int x8), none, none, none]) (st' := [.int x2, .ref x0]) (fun _ => rfl) ?_
        obtain ⟨S10, hS10, h⟩ := obind h
        refine pE_pf rfl rfl rfl hS10 ?_
        refine pE_jump 2 (pc' := 71) (ls' := [some (.ref x0), some (.int x1), some (.int x2), some (.int x3), some (.int x4), some (.int x5), some (.int x6), some (.int x7), some (.int x8), none, none, none]) (st' := [.int x3, .ref x0]) (fun _ => rfl) ?_
        obtain ⟨S11, hS11, h⟩ := obind h
        refine pE_pf rfl rfl rfl hS11 ?_
        refine pE_jump 2 (pc' := 77) (ls' := [some (.ref x0), some (.int x1), some (.int x2), some (.int x3), some (.int x4), some (.int x5), some (.int x6), some (.int x7), some (.int x8), none, none, none]) (st' := [.int x8, .ref x0]) (fun _ => rfl) ?_
        obtain ⟨S12, hS12, h⟩ := obind h
        refine pE_pf rfl rfl rfl hS12 ?_
        refine pE_jump 4 (pc' := 86) (ls' := [some (.ref x0), some (.int x1), some (.int x2), some (.int x3), some (.int x4), some (.int x5), some (.int x6), some (.int x7), some (.int x8), some (.int 1), some (.int 0), none]) (st' := []) (fun _ => rfl) ?_
        exact f_M_distance_86 sp d N rec41 x0 x1 x2 x3 x4 x5 x6 x7 x8 hrec41 N 1 0 S12 _ h
def F_M_distance (N : Nat) (S : pm_S) (a : Nat) (p0 : Int32) (p1 : Int32) (p2 : Int32) (p3 : Int32) (p4 : Int32) : Option (Int32 × pm_S) :=
    if rcv S a 11 = true then
    ((wF S a 11 0 .int (.int 0)).bind fun S1 =>
    (F_M_isPair N S1 a p0 p1 p2).bind fun (v3, S2) =>
    if v3 = 0 then
    F_M_distance_30 N S2
    else
    (if p3 < 0 then
    F_M_distance_30 N S2
    else
    ((F_M_isIn N S2 p4 0 1).bind fun (v5, S4) =>
    if v5 = 0 then
    F_M_distance_30 N S4
    else
    F_M_distance_41 N a p0 p1 p2 p3 p4 N (-1) (-1) 0 S4)))
    else none
theorem g_M_distance {N : Nat} {S : pm_S} {a : Nat} {p0 : Int32} {p1 : Int32} {p2 : Int32} {p3 : Int32} {p4 : Int32} {r : (Int32 × pm_S)} (h : F_M_distance N S a p0 p1 p2 p3 p4 = some r) : rcv S a 11 = true := by
  unfold F_M_distance at h
  by_cases c : rcv S a 11 = true
  · exact c
  · rw [if_neg c] at h; cases h
set_option maxHeartbeats 4000000 in
set_option maxRecDepth 20000 in
theorem f_M_distance (sp : pm_I → List Value → pm_S → pm_O → Prop) (d N : Nat) (S : pm_S) (a : Nat) (p0 : Int32) (p1 : Int32) (p2 : Int32) (p3 : Int32) (p4 : Int32) (r : (Int32 × pm_S)) (h : F_M_distance N S a p0 p1 p2 p3 p4 = some r) : pm_rel pG sp (d + 7) mi_M_distance [.ref a, .int p0, .int p1, .int p2, .int p3, .int p4] S (some (.int r.1), r.2) := by
  have hg := g_M_distance h
  unfold F_M_distance at h
  rw [if_pos hg] at h
  refine pE_rel (d := d + 6) ?_
  show pmE pG _ mi_M_distance 0 [some (.ref a), some (.int p0), some (.int p1), some (.int p2), some (.int p3), some (.int p4), none, none, none, none, none, none] [] S _
  refine pE_jump 2 (pc' := 2) (ls' := [some (.ref a), some (.int p0), some (.int p1), some (.int p2), some (.int p3), some (.int p4), none, none, none, none, none, none]) (st' := [.int 0, .ref a]) (fun _ => rfl) ?_
  obtain ⟨S1, hS1, h⟩ := obind h
  refine pE_pf rfl rfl rfl hS1 ?_
  refine pE_jump 4 (pc' := 9) (ls' := [some (.ref a), some (.int p0), some (.int p1), some (.int p2), some (.int p3), some (.int p4), none, none, none, none, none, none]) (st' := [.int p2, .int p1, .int p0, .ref a]) (fun _ => rfl) ?_
  obtain ⟨⟨v3, S2⟩, hv3, h⟩ := obind h
  try dsimp only at h
  refine pE_iv (Bs := [.int p0, .int p1, .int p2]) (st := []) 1 rfl (Or.inl ⟨rfl, rfl⟩) rfl rfl (Nat.le_of_ble_eq_true rfl) (Nat.le_of_ble_eq_true rfl) (g_M_isPair hv3) (f_M_isPair sp (d + 3) N S1 a p0 p1 p2 _ hv3) ?_
  refine pE_br (v3 = 0) rfl rfl (fun c39 => ?_) (fun c39 => ?_)
  · rw [if_pos c39] at h
    refine pE_weak [none, none, none, none, none, none, none, none, none, none, none, none] trivial ?_
    exact f_M_distance_30 sp d N S2 _ h
  · rw [if_neg c39] at h
    refine pE_jump 1 (pc' := 17) (ls' := [some (.ref a), some (.int p0), some (.int p1), some (.int p2), some (.int p3), some (.int p4), none, none, none, none, none, none]) (st' := [.int p3]) (fun _ => rfl) ?_
    refine pE_br (p3 < 0) rfl rfl (fun c38 => ?_) (fun c38 => ?_)
    · rw [if_pos c38] at h
      refine pE_weak [none, none, none, none, none, none, none, none, none, none, none, none] trivial ?_
      exact f_M_distance_30 sp d N S2 _ h
    · rw [if_neg c38] at h
      refine pE_jump 3 (pc' := 24) (ls' := [some (.ref a), some (.int p0), some (.int p1), some (.int p2), some (.int p3), some (.int p4), none, none, none, none, none, none]) (st' := [.int 1, .int 0, .int p4]) (fun _ => rfl) ?_
      obtain ⟨⟨v5, S4⟩, hv5, h⟩ := obind h
      try dsimp only at h
      refine pE_is (Bs := [.int p4, .int 0, .int 1]) (st := []) rfl rfl rfl (Nat.le_of_ble_eq_true rfl) (Nat.le_of_ble_eq_true rfl) (f_M_isIn sp (d + 5) N S2 p4 0 1 _ hv5) ?_
      refine pE_br (¬ v5 = 0) rfl rfl (fun c37 => ?_) (fun c37 => ?_)
      · rw [if_neg c37] at h
        refine pE_jump 6 (pc' := 41) (ls' := [some (.ref a), some (.int p0), some (.int p1), some (.int p2), some (.int p3), some (.int p4), some (.int (-1)), some (.int (-1)), some (.int 0), none, none, none]) (st' := []) (fun _ => rfl) ?_
        exact f_M_distance_41 sp d N a p0 p1 p2 p3 p4 N (-1) (-1) 0 S4 _ h
      · have c37 := Decidable.not_not.mp c37
        rw [if_pos c37] at h
        refine pE_weak [none, none, none, none, none, none, none, none, none, none, none, none] trivial ?_
        exact f_M_distance_30 sp d N S4 _ h
def F_M_want_20 (N : Nat)   (S : pm_S) : Option (Int32 × pm_S) :=
    some (0, S)
set_option maxHeartbeats 4000000 in
set_option maxRecDepth 20000 in
theorem f_M_want_20 (sp : pm_I → List Value → pm_S → pm_O → Prop) (d N : Nat)   (S : pm_S)  (r : (Int32 × pm_S)) (h : F_M_want_20 N   S = some r) : pmE pG (pm_rel pG sp (d + 3)) mi_M_want 20 [none, none, none, none, none, none, none] [] S (some (.int r.1), r.2) := by
  unfold F_M_want_20 at h
  refine pE_jump 1 (pc' := 21) (ls' := [none, none, none, none, none, none, none]) (st' := [.int 0]) (fun _ => rfl) ?_
  cases h
  exact pE_ret rfl rfl rfl
def F_M_want_61 (N : Nat)   (S : pm_S) : Option (Int32 × pm_S) :=
    some (0, S)
set_option maxHeartbeats 4000000 in
set_option maxRecDepth 20000 in
theorem f_M_want_61 (sp : pm_I → List Value → pm_S → pm_O → Prop) (d N : Nat)   (S : pm_S)  (r : (Int32 × pm_S)) (h : F_M_want_61 N   S = some r) : pmE pG (pm_rel pG sp (d + 3)) mi_M_want 61 [none, none, none, none, none, none, none] [] S (some (.int r.1), r.2) := by
  unfold F_M_want_61 at h
  refine pE_jump 1 (pc' := 62) (ls' := [none, none, none, none, none, none, none]) (st' := [.int 0]) (fun _ => rfl) ?_
  cases h
  exact pE_ret rfl rfl rfl
def F_M_want_135 (N : Nat)  (x0 : Nat) (x1 : Int32) (x2 : Int32) (x3 : Int32) (S : pm_S) : Option (Int32 × pm_S) :=
    (oR S x0 11 53).bind fun oq9 => match oq9 with
    | none => none
    | some q9 =>
    (sI [0] S q9 ((10 * x1) + x2) x3).bind fun S10 =>
    some (1, S10)
set_option maxHeartbeats 4000000 in
set_option maxRecDepth 20000 in
theorem f_M_want_135 (sp : pm_I → List Value → pm_S → pm_O → Prop) (d N : Nat)  (x0 : Nat) (x1 : Int32) (x2 : Int32) (x3 : Int32) (S : pm_S)  (r : (Int32 × pm_S)) (h : F_M_want_135 N  x0 x1 x2 x3 S = some r) : pmE pG (pm_rel pG sp (d + 3)) mi_M_want 135 [some (.ref x0), some (.int x1), some (.int x2), some (.int x3), none, none, none] [] S (some (.int r.1), r.2) := by
  unfold F_M_want_135 at h
  refine pE_jump 1 (pc' := 136) (ls' := [some (.ref x0), some (.int x1), some (.int x2), some (.int x3), none, none, none]) (st' := [.ref x0]) (fun _ => rfl) ?_
  obtain ⟨oq9, hq9, h⟩ := obind h
  cases oq9 with
  | none => cases h
  | some q9 =>
    try dsimp only at h
    refine pE_gfS rfl rfl hq9 ?_
    refine pE_jump 6 (pc' := 146) (ls' := [some (.ref x0), some (.int x1), some (.int x2), some (.int x3), none, none, none]) (st' := [.int x3, .int ((10 * x1) + x2), .ref q9]) (fun _ => rfl) ?_
    obtain ⟨S10, hS10, h⟩ := obind h
    refine pE_sI rfl rfl hS10 ?_
    refine pE_jump 1 (pc' := 148) (ls' := [some (.ref x0), some (.int x1), some (.int x2), some (.int x3), none, none, none]) (st' := [.int 1]) (fun _ => rfl) ?_
    cases h
    exact pE_ret rfl rfl rfl
def F_M_want_129 (N : Nat) (rec66 : Int32 → pm_S → Option (Int32 × pm_S)) (x0 : Nat) (x1 : Int32) (x2 : Int32) (x3 : Int32) (x4 : Int32) (x5 : Int32) (S : pm_S) : Option (Int32 × pm_S) :=
    rec66 (x5 + 1) S
set_option maxHeartbeats 4000000 in
set_option maxRecDepth 20000 in
theorem f_M_want_129 (sp : pm_I → List Value → pm_S → pm_O → Prop) (d N : Nat) (rec66 : Int32 → pm_S → Option (Int32 × pm_S)) (x0 : Nat) (x1 : Int32) (x2 : Int32) (x3 : Int32) (x4 : Int32) (x5 : Int32) (S : pm_S) (hrec66 : ∀ (y1 : Int32) (U : pm_S) (r : (Int32 × pm_S)), rec66 y1 U = some r → pmE pG (pm_rel pG sp (d + 3)) mi_M_want 66 [some (.ref x0), some (.int x1), some (.int x2), some (.int x3), some (.int x4), some (.int y1), none] [] U (some (.int r.1), r.2)) (r : (Int32 × pm_S)) (h : F_M_want_129 N rec66 x0 x1 x2 x3 x4 x5 S = some r) : pmE pG (pm_rel pG sp (d + 3)) mi_M_want 129 [some (.ref x0), some (.int x1), some (.int x2), some (.int x3), some (.int x4), some (.int x5), none] [] S (some (.int r.1), r.2) := by
  unfold F_M_want_129 at h
  refine pE_jump 2 (pc' := 66) (ls' := [some (.ref x0), some (.int x1), some (.int x2), some (.int x3), some (.int x4), some (.int (x5 + 1)), none]) (st' := []) (fun _ => rfl) ?_
  exact hrec66 (x5 + 1) S _ h
def F_M_want_127 (N : Nat)   (S : pm_S) : Option (Int32 × pm_S) :=
    some (0, S)
set_option maxHeartbeats 4000000 in
set_option maxRecDepth 20000 in
theorem f_M_want_127 (sp : pm_I → List Value → pm_S → pm_O → Prop) (d N : Nat)   (S : pm_S)  (r : (Int32 × pm_S)) (h : F_M_want_127 N   S = some r) : pmE pG (pm_rel pG sp (d + 3)) mi_M_want 127 [none, none, none, none, none, none, none] [] S (some (.int r.1), r.2) := by
  unfold F_M_want_127 at h
  refine pE_jump 1 (pc' := 128) (ls' := [none, none, none, none, none, none, none]) (st' := [.int 0]) (fun _ => rfl) ?_
  cases h
  exact pE_ret rfl rfl rfl
def B_M_want_66 (N : Nat)  (rec66 : Int32 → pm_S → Option (Int32 × pm_S)) (x0 : Nat) (x1 : Int32) (x2 : Int32) (x3 : Int32) (x4 : Int32) (x5 : Int32) (S : pm_S) : Option (Int32 × pm_S) :=
    if 10 ≤ x5 then
    F_M_want_135 N x0 x1 x2 x3 S
    else
    ((F_M_hangsAt N S x0 x5).bind fun (v12, S11) =>
    if x3 = (-1) then
    F_M_want_129 N rec66 x0 x1 x2 x3 x4 x5 S11
    else
    (if x5 = x2 then
    F_M_want_129 N rec66 x0 x1 x2 x3 x4 x5 S11
    else
    (if v12 = (-1) then
    F_M_want_129 N rec66 x0 x1 x2 x3 x4 x5 S11
    else
    (if (v12 / 6) = (x4 / 6) then
    ((oR S11 x0 11 53).bind fun oq13 => match oq13 with
    | none => none
    | some q13 =>
    (aI [0, 6] S11 q13 ((10 * x1) + x5)).bind fun v14 =>
    if v14 = x3 then
    F_M_want_127 N S11
    else
    F_M_want_129 N rec66 x0 x1 x2 x3 x4 x5 S11)
    else
    F_M_want_129 N rec66 x0 x1 x2 x3 x4 x5 S11))))
def F_M_want_66 (N : Nat)  (x0 : Nat) (x1 : Int32) (x2 : Int32) (x3 : Int32) (x4 : Int32) : Nat → Int32 → pm_S → Option (Int32 × pm_S)
  | 0 => fun _ _ => none
  | n + 1 => fun x5 S => B_M_want_66 N  (F_M_want_66 N  x0 x1 x2 x3 x4 n) x0 x1 x2 x3 x4 x5 S
set_option maxHeartbeats 4000000 in
set_option maxRecDepth 20000 in
theorem f_M_want_66 (sp : pm_I → List Value → pm_S → pm_O → Prop) (d N : Nat)  (x0 : Nat) (x1 : Int32) (x2 : Int32) (x3 : Int32) (x4 : Int32)  : ∀ (n : Nat) (x5 : Int32) (S : pm_S) (r : (Int32 × pm_S)), F_M_want_66 N  x0 x1 x2 x3 x4 n x5 S = some r → pmE pG (pm_rel pG sp (d + 3)) mi_M_want 66 [some (.ref x0), some (.int x1), some (.int x2), some (.int x3), some (.int x4), some (.int x5), none] [] S (some (.int r.1), r.2) := by
  intro n
  induction n with
  | zero =>
    intro x5 S r h
    cases h
  | succ n ih =>
    intro x5 S r h
    replace h : B_M_want_66 N  (F_M_want_66 N  x0 x1 x2 x3 x4 n) x0 x1 x2 x3 x4 x5 S = some r := h
    have hrec66 := ih
    generalize F_M_want_66 N  x0 x1 x2 x3 x4 n = rec66 at h hrec66
    unfold B_M_want_66 at h
    refine pE_jump 2 (pc' := 70) (ls' := [some (.ref x0), some (.int x1), some (.int x2), some (.int x3), some (.int x4), some (.int x5), none]) (st' := [.int 10, .int x5]) (fun _ => rfl) ?_
    refine pE_br (10 ≤ x5) rfl rfl (fun c20 => ?_) (fun c20 => ?_)
    · rw [if_pos c20] at h
      refine pE_weak [some (.ref x0), some (.int x1), some (.int x2), some (.int x3), none, none, none] ⟨rfl, ⟨rfl, ⟨rfl, ⟨rfl, trivial⟩⟩⟩⟩ ?_
      exact f_M_want_135 sp d N x0 x1 x2 x3 S _ h
    · rw [if_neg c20] at h
      refine pE_jump 2 (pc' := 76) (ls' := [some (.ref x0), some (.int x1), some (.int x2), some (.int x3), some (.int x4), some (.int x5), none]) (st' := [.int x5, .ref x0]) (fun _ => rfl) ?_
      obtain ⟨⟨v12, S11⟩, hv12, h⟩ := obind h
      try dsimp only at h
      refine pE_iv (Bs := [.int x5]) (st := []) 1 rfl (Or.inl ⟨rfl, rfl⟩) rfl rfl (Nat.le_of_ble_eq_true rfl) (Nat.le_of_ble_eq_true rfl) (g_M_hangsAt hv12) (f_M_hangsAt sp (d + 2) N S x0 x5 _ hv12) ?_
      refine pE_jump 3 (pc' := 83) (ls' := [some (.ref x0), some (.int x1), some (.int x2), some (.int x3), some (.int x4), some (.int x5), some (.int v12)]) (st' := [.int (-1), .int x3]) (fun _ => rfl) ?_
      refine pE_br (x3 = (-1)) rfl rfl (fun c19 => ?_) (fun c19 => ?_)
      · rw [if_pos c19] at h
        refine pE_weak [some (.ref x0), some (.int x1), some (.int x2), some (.int x3), some (.int x4), some (.int x5), none] ⟨rfl, ⟨rfl, ⟨rfl, ⟨rfl, ⟨rfl, ⟨rfl, trivial⟩⟩⟩⟩⟩⟩ ?_
        exact f_M_want_129 sp d N rec66 x0 x1 x2 x3 x4 x5 S11 hrec66 _ h
      · rw [if_neg c19] at h
        refine pE_jump 2 (pc' := 89) (ls' := [some (.ref x0), some (.int x1), some (.int x2), some (.int x3), some (.int x4), some (.int x5), some (.int v12)]) (st' := [.int x2, .int x5]) (fun _ => rfl) ?_
        refine pE_br (x5 = x2) rfl rfl (fun c18 => ?_) (fun c18 => ?_)
        · rw [if_pos c18] at h
          refine pE_weak [some (.ref x0), some (.int x1), some (.int x2), some (.int x3), some (.int x4), some (.int x5), none] ⟨rfl, ⟨rfl, ⟨rfl, ⟨rfl, ⟨rfl, ⟨rfl, trivial⟩⟩⟩⟩⟩⟩ ?_
          exact f_M_want_129 sp d N rec66 x0 x1 x2 x3 x4 x5 S11 hrec66 _ h
        · rw [if_neg c18] at h
          refine pE_jump 2 (pc' := 95) (ls' := [some (.ref x0), some (.int x1), some (.int x2), some (.int x3), some (.int x4), some (.int x5), some (.int v12)]) (st' := [.int (-1), .int v12]) (fun _ => rfl) ?_
          refine pE_br (v12 = (-1)) rfl rfl (fun c17 => ?_) (fun c17 => ?_)
          · rw [if_pos c17] at h
            refine pE_weak [some (.ref x0), some (.int x1), some (.int x2), some (.int x3), some (.int x4), some (.int x5), none] ⟨rfl, ⟨rfl, ⟨rfl, ⟨rfl, ⟨rfl, ⟨rfl, trivial⟩⟩⟩⟩⟩⟩ ?_
            exact f_M_want_129 sp d N rec66 x0 x1 x2 x3 x4 x5 S11 hrec66 _ h
          · rw [if_neg c17] at h
            refine pE_jump 2 (pc' := 102) (ls' := [some (.ref x0), some (.int x1), some (.int x2), some (.int x3), some (.int x4), some (.int x5), some (.int v12)]) (st' := [.int 6, .int v12]) (fun _ => rfl) ?_
            refine pE_jump 1 (pc' := 103) (ls' := [some (.ref x0), some (.int x1), some (.int x2), some (.int x3), some (.int x4), some (.int x5), some (.int v12)]) (st' := [.int (v12 / 6)]) (fun _ => rfl) ?_
            refine pE_jump 2 (pc' := 107) (ls' := [some (.ref x0), some (.int x1), some (.int x2), some (.int x3), some (.int x4), some (.int x5), some (.int v12)]) (st' := [.int 6, .int x4, .int (v12 / 6)]) (fun _ => rfl) ?_
            refine pE_jump 1 (pc' := 108) (ls' := [some (.ref x0), some (.int x1), some (.int x2), some (.int x3), some (.int x4), some (.int x5), some (.int v12)]) (st' := [.int (x4 / 6), .int (v12 / 6)]) (fun _ => rfl) ?_
            refine pE_br (¬ (v12 / 6) = (x4 / 6)) rfl rfl (fun c16 => ?_) (fun c16 => ?_)
            · rw [if_neg c16] at h
              refine pE_weak [some (.ref x0), some (.int x1), some (.int x2), some (.int x3), some (.int x4), some (.int x5), none] ⟨rfl, ⟨rfl, ⟨rfl, ⟨rfl, ⟨rfl, ⟨rfl, trivial⟩⟩⟩⟩⟩⟩ ?_
              exact f_M_want_129 sp d N rec66 x0 x1 x2 x3 x4 x5 S11 hrec66 _ h
            · have c16 := Decidable.not_not.mp c16
              rw [if_pos c16] at h
              refine pE_jump 1 (pc' := 112) (ls' := [some (.ref x0), some (.int x1), some (.int x2), some (.int x3), some (.int x4), some (.int x5), some (.int v12)]) (st' := [.ref x0]) (fun _ => rfl) ?_
              obtain ⟨oq13, hq13, h⟩ := obind h
              cases oq13 with
              | none => cases h
              | some q13 =>
                try dsimp only at h
                refine pE_gfS rfl rfl hq13 ?_
                refine pE_jump 5 (pc' := 122) (ls' := [some (.ref x0), some (.int x1), some (.int x2), some (.int x3), some (.int x4), some (.int x5), some (.int v12)]) (st' := [.int ((10 * x1) + x5), .ref q13]) (fun _ => rfl) ?_
                obtain ⟨v14, hv14, h⟩ := obind h
                refine pE_aI rfl rfl hv14 ?_
                refine pE_jump 1 (pc' := 124) (ls' := [some (.ref x0), some (.int x1), some (.int x2), some (.int x3), some (.int x4), some (.int x5), some (.int v12)]) (st' := [.int x3, .int v14]) (fun _ => rfl) ?_
                refine pE_br (¬ v14 = x3) rfl rfl (fun c15 => ?_) (fun c15 => ?_)
                · rw [if_neg c15] at h
                  refine pE_weak [some (.ref x0), some (.int x1), some (.int x2), some (.int x3), some (.int x4), some (.int x5), none] ⟨rfl, ⟨rfl, ⟨rfl, ⟨rfl, ⟨rfl, ⟨rfl, trivial⟩⟩⟩⟩⟩⟩ ?_
                  exact f_M_want_129 sp d N rec66 x0 x1 x2 x3 x4 x5 S11 hrec66 _ h
                · have c15 := Decidable.not_not.mp c15
                  rw [if_pos c15] at h
                  refine pE_weak [none, none, none, none, none, none, none] trivial ?_
                  exact f_M_want_127 sp d N S11 _ h
def F_M_want_63 (N : Nat)  (x0 : Nat) (x1 : Int32) (x2 : Int32) (x3 : Int32) (x4 : Int32) (S : pm_S) : Option (Int32 × pm_S) :=
    F_M_want_66 N x0 x1 x2 x3 x4 N 0 S
set_option maxHeartbeats 4000000 in
set_option maxRecDepth 20000 in
theorem f_M_want_63 (sp : pm_I → List Value → pm_S → pm_O → Prop) (d N : Nat)  (x0 : Nat) (x1 : Int32) (x2 : Int32) (x3 : Int32) (x4 : Int32) (S : pm_S)  (r : (Int32 × pm_S)) (h : F_M_want_63 N  x0 x1 x2 x3 x4 S = some r) : pmE pG (pm_rel pG sp (d + 3)) mi_M_want 63 [some (.ref x0), some (.int x1), some (.int x2), some (.int x3), some (.int x4), none, none] [] S (some (.int r.1), r.2) := by
  unfold F_M_want_63 at h
  refine pE_jump 2 (pc' := 66) (ls' := [some (.ref x0), some (.int x1), some (.int x2), some (.int x3), some (.int x4), some (.int 0), none]) (st' := []) (fun _ => rfl) ?_
  exact f_M_want_66 sp d N x0 x1 x2 x3 x4 N 0 S _ h
def F_M_want (N : Nat) (S : pm_S) (a : Nat) (p0 : Int32) (p1 : Int32) (p2 : Int32) : Option (Int32 × pm_S) :=
    if rcv S a 11 = true then
    ((wF S a 11 0 .int (.int 0)).bind fun S1 =>
    (F_M_isPlan N S1 a p0).bind fun (v3, S2) =>
    if v3 = 0 then
    F_M_want_20 N S2
    else
    ((F_M_isNumberOfHouse N S2 p1).bind fun (v5, S4) =>
    if v5 = 0 then
    F_M_want_20 N S4
    else
    ((F_M_lay N S4 a p0 0 0).bind fun S6 =>
    (F_M_hangsAt N S6 a p1).bind fun (v8, S7) =>
    if v8 = (-1) then
    F_M_want_61 N S7
    else
    (if p2 = (-1) then
    F_M_want_63 N a p0 p1 p2 v8 S7
    else
    ((F_M_isPair N S7 a p0 (v8 / 6) p2).bind fun (v22, S21) =>
    if v22 = 0 then
    F_M_want_61 N S21
    else
    F_M_want_63 N a p0 p1 p2 v8 S21)))))
    else none
theorem g_M_want {N : Nat} {S : pm_S} {a : Nat} {p0 : Int32} {p1 : Int32} {p2 : Int32} {r : (Int32 × pm_S)} (h : F_M_want N S a p0 p1 p2 = some r) : rcv S a 11 = true := by
  unfold F_M_want at h
  by_cases c : rcv S a 11 = true
  · exact c
  · rw [if_neg c] at h; cases h
set_option maxHeartbeats 4000000 in
set_option maxRecDepth 20000 in
theorem f_M_want (sp : pm_I → List Value → pm_S → pm_O → Prop) (d N : Nat) (S : pm_S) (a : Nat) (p0 : Int32) (p1 : Int32) (p2 : Int32) (r : (Int32 × pm_S)) (h : F_M_want N S a p0 p1 p2 = some r) : pm_rel pG sp (d + 4) mi_M_want [.ref a, .int p0, .int p1, .int p2] S (some (.int r.1), r.2) := by
  have hg := g_M_want h
  unfold F_M_want at h
  rw [if_pos hg] at h
  refine pE_rel (d := d + 3) ?_
  show pmE pG _ mi_M_want 0 [some (.ref a), some (.int p0), some (.int p1), some (.int p2), none, none, none] [] S _
  refine pE_jump 2 (pc' := 2) (ls' := [some (.ref a), some (.int p0), some (.int p1), some (.int p2), none, none, none]) (st' := [.int 0, .ref a]) (fun _ => rfl) ?_
  obtain ⟨S1, hS1, h⟩ := obind h
  refine pE_pf rfl rfl rfl hS1 ?_
  refine pE_jump 2 (pc' := 7) (ls' := [some (.ref a), some (.int p0), some (.int p1), some (.int p2), none, none, none]) (st' := [.int p0, .ref a]) (fun _ => rfl) ?_
  obtain ⟨⟨v3, S2⟩, hv3, h⟩ := obind h
  try dsimp only at h
  refine pE_iv (Bs := [.int p0]) (st := []) 1 rfl (Or.inl ⟨rfl, rfl⟩) rfl rfl (Nat.le_of_ble_eq_true rfl) (Nat.le_of_ble_eq_true rfl) (g_M_isPlan hv3) (f_M_isPlan sp (d + 2) N S1 a p0 _ hv3) ?_
  refine pE_br (v3 = 0) rfl rfl (fun c27 => ?_) (fun c27 => ?_)
  · rw [if_pos c27] at h
    refine pE_weak [none, none, none, none, none, none, none] trivial ?_
    exact f_M_want_20 sp d N S2 _ h
  · rw [if_neg c27] at h
    refine pE_jump 1 (pc' := 14) (ls' := [some (.ref a), some (.int p0), some (.int p1), some (.int p2), none, none, none]) (st' := [.int p1]) (fun _ => rfl) ?_
    obtain ⟨⟨v5, S4⟩, hv5, h⟩ := obind h
    try dsimp only at h
    refine pE_is (Bs := [.int p1]) (st := []) rfl rfl rfl (Nat.le_of_ble_eq_true rfl) (Nat.le_of_ble_eq_true rfl) (f_M_isNumberOfHouse sp (d + 1) N S2 p1 _ hv5) ?_
    refine pE_br (¬ v5 = 0) rfl rfl (fun c26 => ?_) (fun c26 => ?_)
    · rw [if_neg c26] at h
      refine pE_jump 4 (pc' := 26) (ls' := [some (.ref a), some (.int p0), some (.int p1), some (.int p2), none, none, none]) (st' := [.int 0, .int 0, .int p0, .ref a]) (fun _ => rfl) ?_
      obtain ⟨S6, hS6, h⟩ := obind h
      refine pE_iv (Bs := [.int p0, .int 0, .int 0]) (st := []) 1 rfl (Or.inl ⟨rfl, rfl⟩) rfl rfl (Nat.le_of_ble_eq_true rfl) (Nat.le_of_ble_eq_true rfl) (g_M_lay hS6) (f_M_lay sp d N S4 a p0 0 0 _ hS6) ?_
      refine pE_jump 2 (pc' := 31) (ls' := [some (.ref a), some (.int p0), some (.int p1), some (.int p2), none, none, none]) (st' := [.int p1, .ref a]) (fun _ => rfl) ?_
      obtain ⟨⟨v8, S7⟩, hv8, h⟩ := obind h
      try dsimp only at h
      refine pE_iv (Bs := [.int p1]) (st := []) 1 rfl (Or.inl ⟨rfl, rfl⟩) rfl rfl (Nat.le_of_ble_eq_true rfl) (Nat.le_of_ble_eq_true rfl) (g_M_hangsAt hv8) (f_M_hangsAt sp (d + 2) N S6 a p1 _ hv8) ?_
      refine pE_jump 3 (pc' := 39) (ls' := [some (.ref a), some (.int p0), some (.int p1), some (.int p2), some (.int v8), none, none]) (st' := [.int (-1), .int v8]) (fun _ => rfl) ?_
      refine pE_br (v8 = (-1)) rfl rfl (fun c25 => ?_) (fun c25 => ?_)
      · rw [if_pos c25] at h
        refine pE_weak [none, none, none, none, none, none, none] trivial ?_
        exact f_M_want_61 sp d N S7 _ h
      · rw [if_neg c25] at h
        refine pE_jump 2 (pc' := 44) (ls' := [some (.ref a), some (.int p0), some (.int p1), some (.int p2), some (.int v8), none, none]) (st' := [.int (-1), .int p2]) (fun _ => rfl) ?_
        refine pE_br (p2 = (-1)) rfl rfl (fun c24 => ?_) (fun c24 => ?_)
        · rw [if_pos c24] at h
          exact f_M_want_63 sp d N a p0 p1 p2 v8 S7 _ h
        · rw [if_neg c24] at h
          refine pE_jump 4 (pc' := 53) (ls' := [some (.ref a), some (.int p0), some (.int p1), some (.int p2), some (.int v8), none, none]) (st' := [.int 6, .int v8, .int p0, .ref a]) (fun _ => rfl) ?_
          refine pE_jump 1 (pc' := 54) (ls' := [some (.ref a), some (.int p0), some (.int p1), some (.int p2), some (.int v8), none, none]) (st' := [.int (v8 / 6), .int p0, .ref a]) (fun _ => rfl) ?_
          refine pE_jump 1 (pc' := 55) (ls' := [some (.ref a), some (.int p0), some (.int p1), some (.int p2), some (.int v8), none, none]) (st' := [.int p2, .int (v8 / 6), .int p0, .ref a]) (fun _ => rfl) ?_
          obtain ⟨⟨v22, S21⟩, hv22, h⟩ := obind h
          try dsimp only at h
          refine pE_iv (Bs := [.int p0, .int (v8 / 6), .int p2]) (st := []) 1 rfl (Or.inl ⟨rfl, rfl⟩) rfl rfl (Nat.le_of_ble_eq_true rfl) (Nat.le_of_ble_eq_true rfl) (g_M_isPair hv22) (f_M_isPair sp d N S7 a p0 (v8 / 6) p2 _ hv22) ?_
          refine pE_br (¬ v22 = 0) rfl rfl (fun c23 => ?_) (fun c23 => ?_)
          · rw [if_neg c23] at h
            exact f_M_want_63 sp d N a p0 p1 p2 v8 S21 _ h
          · have c23 := Decidable.not_not.mp c23
            rw [if_pos c23] at h
            refine pE_weak [none, none, none, none, none, none, none] trivial ?_
            exact f_M_want_61 sp d N S21 _ h
    · have c26 := Decidable.not_not.mp c26
      rw [if_pos c26] at h
      refine pE_weak [none, none, none, none, none, none, none] trivial ?_
      exact f_M_want_20 sp d N S4 _ h
def F_M_pairOf_31 (N : Nat)   (S : pm_S) : Option (Int32 × pm_S) :=
    some ((-1), S)
set_option maxHeartbeats 4000000 in
set_option maxRecDepth 20000 in
theorem f_M_pairOf_31 (sp : pm_I → List Value → pm_S → pm_O → Prop) (d N : Nat)   (S : pm_S)  (r : (Int32 × pm_S)) (h : F_M_pairOf_31 N   S = some r) : pmE pG (pm_rel pG sp (d + 0)) mi_M_pairOf 31 [none, none, none, none] [] S (some (.int r.1), r.2) := by
  unfold F_M_pairOf_31 at h
  refine pE_jump 1 (pc' := 32) (ls' := [none, none, none, none]) (st' := [.int (-1)]) (fun _ => rfl) ?_
  cases h
  exact pE_ret rfl rfl rfl
def F_M_pairOf_23 (N : Nat)  (x3 : Int32) (S : pm_S) : Option (Int32 × pm_S) :=
    some (x3, S)
set_option maxHeartbeats 4000000 in
set_option maxRecDepth 20000 in
theorem f_M_pairOf_23 (sp : pm_I → List Value → pm_S → pm_O → Prop) (d N : Nat)  (x3 : Int32) (S : pm_S)  (r : (Int32 × pm_S)) (h : F_M_pairOf_23 N  x3 S = some r) : pmE pG (pm_rel pG sp (d + 0)) mi_M_pairOf 23 [none, none, none, some (.int x3)] [] S (some (.int r.1), r.2) := by
  unfold F_M_pairOf_23 at h
  refine pE_jump 1 (pc' := 24) (ls' := [none, none, none, some (.int x3)]) (st' := [.int x3]) (fun _ => rfl) ?_
  cases h
  exact pE_ret rfl rfl rfl
def B_M_pairOf_2 (N : Nat)  (rec2 : Int32 → pm_S → Option (Int32 × pm_S)) (x0 : Nat) (x1 : Int32) (x2 : Int32) (x3 : Int32) (S : pm_S) : Option (Int32 × pm_S) :=
    if 6 ≤ x3 then
    F_M_pairOf_31 N S
    else
    ((oR S x0 11 27).bind fun oq1 => match oq1 with
    | none => none
    | some q1 =>
    (aI [0, 6] S q1 ((6 * x1) + x3)).bind fun v2 =>
    if v2 = x2 then
    F_M_pairOf_23 N x3 S
    else
    rec2 (x3 + 1) S)
def F_M_pairOf_2 (N : Nat)  (x0 : Nat) (x1 : Int32) (x2 : Int32) : Nat → Int32 → pm_S → Option (Int32 × pm_S)
  | 0 => fun _ _ => none
  | n + 1 => fun x3 S => B_M_pairOf_2 N  (F_M_pairOf_2 N  x0 x1 x2 n) x0 x1 x2 x3 S
set_option maxHeartbeats 4000000 in
set_option maxRecDepth 20000 in
theorem f_M_pairOf_2 (sp : pm_I → List Value → pm_S → pm_O → Prop) (d N : Nat)  (x0 : Nat) (x1 : Int32) (x2 : Int32)  : ∀ (n : Nat) (x3 : Int32) (S : pm_S) (r : (Int32 × pm_S)), F_M_pairOf_2 N  x0 x1 x2 n x3 S = some r → pmE pG (pm_rel pG sp (d + 0)) mi_M_pairOf 2 [some (.ref x0), some (.int x1), some (.int x2), some (.int x3)] [] S (some (.int r.1), r.2) := by
  intro n
  induction n with
  | zero =>
    intro x3 S r h
    cases h
  | succ n ih =>
    intro x3 S r h
    replace h : B_M_pairOf_2 N  (F_M_pairOf_2 N  x0 x1 x2 n) x0 x1 x2 x3 S = some r := h
    have hrec2 := ih
    generalize F_M_pairOf_2 N  x0 x1 x2 n = rec2 at h hrec2
    unfold B_M_pairOf_2 at h
    refine pE_jump 2 (pc' := 5) (ls' := [some (.ref x0), some (.int x1), some (.int x2), some (.int x3)]) (st' := [.int 6, .int x3]) (fun _ => rfl) ?_
    refine pE_br (6 ≤ x3) rfl rfl (fun c4 => ?_) (fun c4 => ?_)
    · rw [if_pos c4] at h
      refine pE_weak [none, none, none, none] trivial ?_
      exact f_M_pairOf_31 sp d N S _ h
    · rw [if_neg c4] at h
      refine pE_jump 1 (pc' := 9) (ls' := [some (.ref x0), some (.int x1), some (.int x2), some (.int x3)]) (st' := [.ref x0]) (fun _ => rfl) ?_
      obtain ⟨oq1, hq1, h⟩ := obind h
      cases oq1 with
      | none => cases h
      | some q1 =>
        try dsimp only at h
        refine pE_gfS rfl rfl hq1 ?_
        refine pE_jump 5 (pc' := 18) (ls' := [some (.ref x0), some (.int x1), some (.int x2), some (.int x3)]) (st' := [.int ((6 * x1) + x3), .ref q1]) (fun _ => rfl) ?_
        obtain ⟨v2, hv2, h⟩ := obind h
        refine pE_aI rfl rfl hv2 ?_
        refine pE_jump 1 (pc' := 20) (ls' := [some (.ref x0), some (.int x1), some (.int x2), some (.int x3)]) (st' := [.int x2, .int v2]) (fun _ => rfl) ?_
        refine pE_br (¬ v2 = x2) rfl rfl (fun c3 => ?_) (fun c3 => ?_)
        · rw [if_neg c3] at h
          refine pE_jump 2 (pc' := 2) (ls' := [some (.ref x0), some (.int x1), some (.int x2), some (.int (x3 + 1))]) (st' := []) (fun _ => rfl) ?_
          exact hrec2 (x3 + 1) S _ h
        · have c3 := Decidable.not_not.mp c3
          rw [if_pos c3] at h
          refine pE_weak [none, none, none, some (.int x3)] ⟨rfl, trivial⟩ ?_
          exact f_M_pairOf_23 sp d N x3 S _ h
def F_M_pairOf (N : Nat) (S : pm_S) (a : Nat) (p0 : Int32) (p1 : Int32) : Option (Int32 × pm_S) :=
    if rcv S a 11 = true then
    (F_M_pairOf_2 N a p0 p1 N 0 S)
    else none
theorem g_M_pairOf {N : Nat} {S : pm_S} {a : Nat} {p0 : Int32} {p1 : Int32} {r : (Int32 × pm_S)} (h : F_M_pairOf N S a p0 p1 = some r) : rcv S a 11 = true := by
  unfold F_M_pairOf at h
  by_cases c : rcv S a 11 = true
  · exact c
  · rw [if_neg c] at h; cases h
set_option maxHeartbeats 4000000 in
set_option maxRecDepth 20000 in
theorem f_M_pairOf (sp : pm_I → List Value → pm_S → pm_O → Prop) (d N : Nat) (S : pm_S) (a : Nat) (p0 : Int32) (p1 : Int32) (r : (Int32 × pm_S)) (h : F_M_pairOf N S a p0 p1 = some r) : pm_rel pG sp (d + 1) mi_M_pairOf [.ref a, .int p0, .int p1] S (some (.int r.1), r.2) := by
  have hg := g_M_pairOf h
  unfold F_M_pairOf at h
  rw [if_pos hg] at h
  refine pE_rel (d := d + 0) ?_
  show pmE pG _ mi_M_pairOf 0 [some (.ref a), some (.int p0), some (.int p1), none] [] S _
  refine pE_jump 2 (pc' := 2) (ls' := [some (.ref a), some (.int p0), some (.int p1), some (.int 0)]) (st' := []) (fun _ => rfl) ?_
  exact f_M_pairOf_2 sp d N a p0 p1 N 0 S _ h
def F_M_isAstray_45 (N : Nat)  (t0 : Int32) (S : pm_S) : Option (Int32 × pm_S) :=
    if t0 = 0 ∨ t0 = 1 then some (t0, S) else none
set_option maxHeartbeats 4000000 in
set_option maxRecDepth 20000 in
theorem f_M_isAstray_45 (sp : pm_I → List Value → pm_S → pm_O → Prop) (d N : Nat)  (t0 : Int32) (S : pm_S)  (r : (Int32 × pm_S)) (h : F_M_isAstray_45 N  t0 S = some r) : pmE pG (pm_rel pG sp (d + 1)) mi_M_isAstray 45 [none, none, none, none] [.int t0] S (some (.int r.1), r.2) := by
  unfold F_M_isAstray_45 at h
  by_cases c5 : t0 = 0 ∨ t0 = 1
  · rw [if_pos c5] at h
    cases h
    exact pE_ret rfl (if_pos c5) rfl
  · rw [if_neg c5] at h
    cases h
def F_M_isAstray_44 (N : Nat)   (S : pm_S) : Option (Int32 × pm_S) :=
    F_M_isAstray_45 N 0 S
set_option maxHeartbeats 4000000 in
set_option maxRecDepth 20000 in
theorem f_M_isAstray_44 (sp : pm_I → List Value → pm_S → pm_O → Prop) (d N : Nat)   (S : pm_S)  (r : (Int32 × pm_S)) (h : F_M_isAstray_44 N   S = some r) : pmE pG (pm_rel pG sp (d + 1)) mi_M_isAstray 44 [none, none, none, none] [] S (some (.int r.1), r.2) := by
  unfold F_M_isAstray_44 at h
  refine pE_jump 1 (pc' := 45) (ls' := [none, none, none, none]) (st' := [.int 0]) (fun _ => rfl) ?_
  exact f_M_isAstray_45 sp d N 0 S _ h
def F_M_isAstray (N : Nat) (S : pm_S) (a : Nat) (p0 : Int32) (p1 : Int32) : Option (Int32 × pm_S) :=
    if rcv S a 11 = true then
    ((oR S a 11 53).bind fun oq1 => match oq1 with
    | none => none
    | some q1 =>
    (oI S a 11 29).bind fun v3 =>
    (aI [0, 6] S q1 ((10 * v3) + p1)).bind fun v4 =>
    if v4 = (-1) then
    F_M_isAstray_44 N S
    else
    ((F_M_pairOf N S a p0 p1).bind fun (v7, S6) =>
    if v7 = (-1) then
    F_M_isAstray_44 N S6
    else
    ((F_M_pairOf N S6 a p0 p1).bind fun (v9, S8) =>
    if v9 = v4 then
    F_M_isAstray_44 N S8
    else
    F_M_isAstray_45 N 1 S8)))
    else none
theorem g_M_isAstray {N : Nat} {S : pm_S} {a : Nat} {p0 : Int32} {p1 : Int32} {r : (Int32 × pm_S)} (h : F_M_isAstray N S a p0 p1 = some r) : rcv S a 11 = true := by
  unfold F_M_isAstray at h
  by_cases c : rcv S a 11 = true
  · exact c
  · rw [if_neg c] at h; cases h
set_option maxHeartbeats 4000000 in
set_option maxRecDepth 20000 in
theorem f_M_isAstray (sp : pm_I → List Value → pm_S → pm_O → Prop) (d N : Nat) (S : pm_S) (a : Nat) (p0 : Int32) (p1 : Int32) (r : (Int32 × pm_S)) (h : F_M_isAstray N S a p0 p1 = some r) : pm_rel pG sp (d + 2) mi_M_isAstray [.ref a, .int p0, .int p1] S (some (.int r.1), r.2) := by
  have hg := g_M_isAstray h
  unfold F_M_isAstray at h
  rw [if_pos hg] at h
  refine pE_rel (d := d + 1) ?_
  show pmE pG _ mi_M_isAstray 0 [some (.ref a), some (.int p0), some (.int p1), none] [] S _
  refine pE_jump 1 (pc' := 1) (ls' := [some (.ref a), some (.int p0), some (.int p1), none]) (st' := [.ref a]) (fun _ => rfl) ?_
  obtain ⟨oq1, hq1, h⟩ := obind h
  cases oq1 with
  | none => cases h
  | some q1 =>
    try dsimp only at h
    refine pE_gfS rfl rfl hq1 ?_
    refine pE_jump 2 (pc' := 7) (ls' := [some (.ref a), some (.int p0), some (.int p1), none]) (st' := [.ref a, .int 10, .ref q1]) (fun _ => rfl) ?_
    obtain ⟨v3, hv3, h⟩ := obind h
    refine pE_gfI rfl rfl hv3 ?_
    refine pE_jump 3 (pc' := 13) (ls' := [some (.ref a), some (.int p0), some (.int p1), none]) (st' := [.int ((10 * v3) + p1), .ref q1]) (fun _ => rfl) ?_
    obtain ⟨v4, hv4, h⟩ := obind h
    refine pE_aI rfl rfl hv4 ?_
    refine pE_jump 3 (pc' := 17) (ls' := [some (.ref a), some (.int p0), some (.int p1), some (.int v4)]) (st' := [.int (-1), .int v4]) (fun _ => rfl) ?_
    refine pE_br (v4 = (-1)) rfl rfl (fun c12 => ?_) (fun c12 => ?_)
    · rw [if_pos c12] at h
      refine pE_weak [none, none, none, none] trivial ?_
      exact f_M_isAstray_44 sp d N S _ h
    · rw [if_neg c12] at h
      refine pE_jump 3 (pc' := 23) (ls' := [some (.ref a), some (.int p0), some (.int p1), some (.int v4)]) (st' := [.int p1, .int p0, .ref a]) (fun _ => rfl) ?_
      obtain ⟨⟨v7, S6⟩, hv7, h⟩ := obind h
      try dsimp only at h
      refine pE_iv (Bs := [.int p0, .int p1]) (st := []) 1 rfl (Or.inl ⟨rfl, rfl⟩) rfl rfl (Nat.le_of_ble_eq_true rfl) (Nat.le_of_ble_eq_true rfl) (g_M_pairOf hv7) (f_M_pairOf sp d N S a p0 p1 _ hv7) ?_
      refine pE_jump 1 (pc' := 27) (ls' := [some (.ref a), some (.int p0), some (.int p1), some (.int v4)]) (st' := [.int (-1), .int v7]) (fun _ => rfl) ?_
      refine pE_br (v7 = (-1)) rfl rfl (fun c11 => ?_) (fun c11 => ?_)
      · rw [if_pos c11] at h
        refine pE_weak [none, none, none, none] trivial ?_
        exact f_M_isAstray_44 sp d N S6 _ h
      · rw [if_neg c11] at h
        refine pE_jump 3 (pc' := 33) (ls' := [some (.ref a), some (.int p0), some (.int p1), some (.int v4)]) (st' := [.int p1, .int p0, .ref a]) (fun _ => rfl) ?_
        obtain ⟨⟨v9, S8⟩, hv9, h⟩ := obind h
        try dsimp only at h
        refine pE_iv (Bs := [.int p0, .int p1]) (st := []) 1 rfl (Or.inl ⟨rfl, rfl⟩) rfl rfl (Nat.le_of_ble_eq_true rfl) (Nat.le_of_ble_eq_true rfl) (g_M_pairOf hv9) (f_M_pairOf sp d N S6 a p0 p1 _ hv9) ?_
        refine pE_jump 1 (pc' := 37) (ls' := [some (.ref a), some (.int p0), some (.int p1), some (.int v4)]) (st' := [.int v4, .int v9]) (fun _ => rfl) ?_
        refine pE_br (v9 = v4) rfl rfl (fun c10 => ?_) (fun c10 => ?_)
        · rw [if_pos c10] at h
          refine pE_weak [none, none, none, none] trivial ?_
          exact f_M_isAstray_44 sp d N S8 _ h
        · rw [if_neg c10] at h
          refine pE_jump 2 (pc' := 45) (ls' := [some (.ref a), some (.int p0), some (.int p1), some (.int v4)]) (st' := [.int 1]) (fun _ => rfl) ?_
          refine pE_weak [none, none, none, none] trivial ?_
          exact f_M_isAstray_45 sp d N 1 S8 _ h
def F_M_isFree_53 (N : Nat)  (t0 : Int32) (S : pm_S) : Option (Int32 × pm_S) :=
    if t0 = 0 ∨ t0 = 1 then some (t0, S) else none
set_option maxHeartbeats 4000000 in
set_option maxRecDepth 20000 in
theorem f_M_isFree_53 (sp : pm_I → List Value → pm_S → pm_O → Prop) (d N : Nat)  (t0 : Int32) (S : pm_S)  (r : (Int32 × pm_S)) (h : F_M_isFree_53 N  t0 S = some r) : pmE pG (pm_rel pG sp (d + 1)) mi_M_isFree 53 [none, none, none] [.int t0] S (some (.int r.1), r.2) := by
  unfold F_M_isFree_53 at h
  by_cases c7 : t0 = 0 ∨ t0 = 1
  · rw [if_pos c7] at h
    cases h
    exact pE_ret rfl (if_pos c7) rfl
  · rw [if_neg c7] at h
    cases h
def F_M_isFree_52 (N : Nat)   (S : pm_S) : Option (Int32 × pm_S) :=
    F_M_isFree_53 N 0 S
set_option maxHeartbeats 4000000 in
set_option maxRecDepth 20000 in
theorem f_M_isFree_52 (sp : pm_I → List Value → pm_S → pm_O → Prop) (d N : Nat)   (S : pm_S)  (r : (Int32 × pm_S)) (h : F_M_isFree_52 N   S = some r) : pmE pG (pm_rel pG sp (d + 1)) mi_M_isFree 52 [none, none, none] [] S (some (.int r.1), r.2) := by
  unfold F_M_isFree_52 at h
  refine pE_jump 1 (pc' := 53) (ls' := [none, none, none]) (st' := [.int 0]) (fun _ => rfl) ?_
  exact f_M_isFree_53 sp d N 0 S _ h
def F_M_isFree (N : Nat) (S : pm_S) (a : Nat) (p0 : Int32) (p1 : Int32) : Option (Int32 × pm_S) :=
    if rcv S a 11 = true then
    ((oR S a 11 10).bind fun oq1 => match oq1 with
    | none => none
    | some q1 =>
    (oI S a 11 29).bind fun v3 =>
    (aI [0, 6] S q1 ((7 * v3) + p0)).bind fun v4 =>
    (F_M_isIn N S p1 0 (v4 - 1)).bind fun (v6, S5) =>
    if v6 = 0 then
    F_M_isFree_52 N S5
    else
    ((oR S5 a 11 54).bind fun oq8 => match oq8 with
    | none => none
    | some q8 =>
    (aI [2, 3] S5 q8 p1).bind fun v9 =>
    if v9 = 0 then
    F_M_isFree_52 N S5
    else
    ((oR S5 a 11 27).bind fun oq10 => match oq10 with
    | none => none
    | some q10 =>
    (aI [0, 6] S5 q10 ((6 * p0) + p1)).bind fun v11 =>
    if v11 = (-1) then
    F_M_isFree_53 N 1 S5
    else
    F_M_isFree_52 N S5)))
    else none
theorem g_M_isFree {N : Nat} {S : pm_S} {a : Nat} {p0 : Int32} {p1 : Int32} {r : (Int32 × pm_S)} (h : F_M_isFree N S a p0 p1 = some r) : rcv S a 11 = true := by
  unfold F_M_isFree at h
  by_cases c : rcv S a 11 = true
  · exact c
  · rw [if_neg c] at h; cases h
set_option maxHeartbeats 4000000 in
set_option maxRecDepth 20000 in
theorem f_M_isFree (sp : pm_I → List Value → pm_S → pm_O → Prop) (d N : Nat) (S : pm_S) (a : Nat) (p0 : Int32) (p1 : Int32) (r : (Int32 × pm_S)) (h : F_M_isFree N S a p0 p1 = some r) : pm_rel pG sp (d + 2) mi_M_isFree [.ref a, .int p0, .int p1] S (some (.int r.1), r.2) := by
  have hg := g_M_isFree h
  unfold F_M_isFree at h
  rw [if_pos hg] at h
  refine pE_rel (d := d + 1) ?_
  show pmE pG _ mi_M_isFree 0 [some (.ref a), some (.int p0), some (.int p1)] [] S _
  refine pE_jump 3 (pc' := 3) (ls' := [some (.ref a), some (.int p0), some (.int p1)]) (st' := [.ref a, .int 0, .int p1]) (fun _ => rfl) ?_
  obtain ⟨oq1, hq1, h⟩ := obind h
  cases oq1 with
  | none => cases h
  | some q1 =>
    try dsimp only at h
    refine pE_gfS rfl rfl hq1 ?_
    refine pE_jump 2 (pc' := 9) (ls' := [some (.ref a), some (.int p0), some (.int p1)]) (st' := [.ref a, .int 7, .ref q1, .int 0, .int p1]) (fun _ => rfl) ?_
    obtain ⟨v3, hv3, h⟩ := obind h
    refine pE_gfI rfl rfl hv3 ?_
    refine pE_jump 3 (pc' := 15) (ls' := [some (.ref a), some (.int p0), some (.int p1)]) (st' := [.int ((7 * v3) + p0), .ref q1, .int 0, .int p1]) (fun _ => rfl) ?_
    obtain ⟨v4, hv4, h⟩ := obind h
    refine pE_aI rfl rfl hv4 ?_
    refine pE_jump 2 (pc' := 18) (ls' := [some (.ref a), some (.int p0), some (.int p1)]) (st' := [.int (v4 - 1), .int 0, .int p1]) (fun _ => rfl) ?_
    obtain ⟨⟨v6, S5⟩, hv6, h⟩ := obind h
    try dsimp only at h
    refine pE_is (Bs := [.int p1, .int 0, .int (v4 - 1)]) (st := []) rfl rfl rfl (Nat.le_of_ble_eq_true rfl) (Nat.le_of_ble_eq_true rfl) (f_M_isIn sp d N S p1 0 (v4 - 1) _ hv6) ?_
    refine pE_br (v6 = 0) rfl rfl (fun c14 => ?_) (fun c14 => ?_)
    · rw [if_pos c14] at h
      refine pE_weak [none, none, none] trivial ?_
      exact f_M_isFree_52 sp d N S5 _ h
    · rw [if_neg c14] at h
      refine pE_jump 1 (pc' := 25) (ls' := [some (.ref a), some (.int p0), some (.int p1)]) (st' := [.ref a]) (fun _ => rfl) ?_
      obtain ⟨oq8, hq8, h⟩ := obind h
      cases oq8 with
      | none => cases h
      | some q8 =>
        try dsimp only at h
        refine pE_gfS rfl rfl hq8 ?_
        refine pE_jump 1 (pc' := 29) (ls' := [some (.ref a), some (.int p0), some (.int p1)]) (st' := [.int p1, .ref q8]) (fun _ => rfl) ?_
        obtain ⟨v9, hv9, h⟩ := obind h
        refine pE_aI rfl rfl hv9 ?_
        refine pE_br (v9 = 0) rfl rfl (fun c13 => ?_) (fun c13 => ?_)
        · rw [if_pos c13] at h
          refine pE_weak [none, none, none] trivial ?_
          exact f_M_isFree_52 sp d N S5 _ h
        · rw [if_neg c13] at h
          refine pE_jump 1 (pc' := 34) (ls' := [some (.ref a), some (.int p0), some (.int p1)]) (st' := [.ref a]) (fun _ => rfl) ?_
          obtain ⟨oq10, hq10, h⟩ := obind h
          cases oq10 with
          | none => cases h
          | some q10 =>
            try dsimp only at h
            refine pE_gfS rfl rfl hq10 ?_
            refine pE_jump 5 (pc' := 43) (ls' := [some (.ref a), some (.int p0), some (.int p1)]) (st' := [.int ((6 * p0) + p1), .ref q10]) (fun _ => rfl) ?_
            obtain ⟨v11, hv11, h⟩ := obind h
            refine pE_aI rfl rfl hv11 ?_
            refine pE_jump 1 (pc' := 45) (ls' := [some (.ref a), some (.int p0), some (.int p1)]) (st' := [.int (-1), .int v11]) (fun _ => rfl) ?_
            refine pE_br (¬ v11 = (-1)) rfl rfl (fun c12 => ?_) (fun c12 => ?_)
            · rw [if_neg c12] at h
              refine pE_weak [none, none, none] trivial ?_
              exact f_M_isFree_52 sp d N S5 _ h
            · have c12 := Decidable.not_not.mp c12
              rw [if_pos c12] at h
              refine pE_jump 2 (pc' := 53) (ls' := [some (.ref a), some (.int p0), some (.int p1)]) (st' := [.int 1]) (fun _ => rfl) ?_
              refine pE_weak [none, none, none] trivial ?_
              exact f_M_isFree_53 sp d N 1 S5 _ h
def F_M_goes (N : Nat) (S : pm_S) (a : Nat) (p0 : Int32) (p1 : Int32) (p2 : Int32) : Option pm_S :=
    if rcv S a 11 = true then
    ((F_M_unhang N S a p1).bind fun S1 =>
    (oR S1 a 11 27).bind fun oq2 => match oq2 with
    | none => none
    | some q2 =>
    (sI [0] S1 q2 ((6 * p0) + p2) p1).bind fun S3 =>
    (oR S3 a 11 56).bind fun oq4 => match oq4 with
    | none => none
    | some q4 =>
    (oI S3 a 11 57).bind fun v6 =>
    (sI [0] S3 q4 v6 ((8 * p1) + p2)).bind fun S7 =>
    (oI S7 a 11 57).bind fun v8 =>
    (wF S7 a 11 57 .int (.int (v8 + 1))).bind fun S9 =>
    some S9)
    else none
theorem g_M_goes {N : Nat} {S : pm_S} {a : Nat} {p0 : Int32} {p1 : Int32} {p2 : Int32} {r : pm_S} (h : F_M_goes N S a p0 p1 p2 = some r) : rcv S a 11 = true := by
  unfold F_M_goes at h
  by_cases c : rcv S a 11 = true
  · exact c
  · rw [if_neg c] at h; cases h
set_option maxHeartbeats 4000000 in
set_option maxRecDepth 20000 in
theorem f_M_goes (sp : pm_I → List Value → pm_S → pm_O → Prop) (d N : Nat) (S : pm_S) (a : Nat) (p0 : Int32) (p1 : Int32) (p2 : Int32) (r : pm_S) (h : F_M_goes N S a p0 p1 p2 = some r) : pm_rel pG sp (d + 2) mi_M_goes [.ref a, .int p0, .int p1, .int p2] S (none, r) := by
  have hg := g_M_goes h
  unfold F_M_goes at h
  rw [if_pos hg] at h
  refine pE_rel (d := d + 1) ?_
  show pmE pG _ mi_M_goes 0 [some (.ref a), some (.int p0), some (.int p1), some (.int p2)] [] S _
  refine pE_jump 2 (pc' := 2) (ls' := [some (.ref a), some (.int p0), some (.int p1), some (.int p2)]) (st' := [.int p1, .ref a]) (fun _ => rfl) ?_
  obtain ⟨S1, hS1, h⟩ := obind h
  refine pE_iv (Bs := [.int p1]) (st := []) 1 rfl (Or.inl ⟨rfl, rfl⟩) rfl rfl (Nat.le_of_ble_eq_true rfl) (Nat.le_of_ble_eq_true rfl) (g_M_unhang hS1) (f_M_unhang sp d N S a p1 _ hS1) ?_
  refine pE_jump 1 (pc' := 6) (ls' := [some (.ref a), some (.int p0), some (.int p1), some (.int p2)]) (st' := [.ref a]) (fun _ => rfl) ?_
  obtain ⟨oq2, hq2, h⟩ := obind h
  cases oq2 with
  | none => cases h
  | some q2 =>
    try dsimp only at h
    refine pE_gfS rfl rfl hq2 ?_
    refine pE_jump 6 (pc' := 16) (ls' := [some (.ref a), some (.int p0), some (.int p1), some (.int p2)]) (st' := [.int p1, .int ((6 * p0) + p2), .ref q2]) (fun _ => rfl) ?_
    obtain ⟨S3, hS3, h⟩ := obind h
    refine pE_sI rfl rfl hS3 ?_
    refine pE_jump 1 (pc' := 18) (ls' := [some (.ref a), some (.int p0), some (.int p1), some (.int p2)]) (st' := [.ref a]) (fun _ => rfl) ?_
    obtain ⟨oq4, hq4, h⟩ := obind h
    cases oq4 with
    | none => cases h
    | some q4 =>
      try dsimp only at h
      refine pE_gfS rfl rfl hq4 ?_
      refine pE_jump 1 (pc' := 22) (ls' := [some (.ref a), some (.int p0), some (.int p1), some (.int p2)]) (st' := [.ref a, .ref q4]) (fun _ => rfl) ?_
      obtain ⟨v6, hv6, h⟩ := obind h
      refine pE_gfI rfl rfl hv6 ?_
      refine pE_jump 5 (pc' := 31) (ls' := [some (.ref a), some (.int p0), some (.int p1), some (.int p2)]) (st' := [.int ((8 * p1) + p2), .int v6, .ref q4]) (fun _ => rfl) ?_
      obtain ⟨S7, hS7, h⟩ := obind h
      refine pE_sI rfl rfl hS7 ?_
      refine pE_jump 2 (pc' := 34) (ls' := [some (.ref a), some (.int p0), some (.int p1), some (.int p2)]) (st' := [.ref a, .ref a]) (fun _ => rfl) ?_
      obtain ⟨v8, hv8, h⟩ := obind h
      refine pE_gfI rfl rfl hv8 ?_
      refine pE_jump 2 (pc' := 39) (ls' := [some (.ref a), some (.int p0), some (.int p1), some (.int p2)]) (st' := [.int (v8 + 1), .ref a]) (fun _ => rfl) ?_
      obtain ⟨S9, hS9, h⟩ := obind h
      refine pE_pf rfl rfl rfl hS9 ?_
      cases h
      exact pE_ret rfl rfl rfl
def F_M_goesHome_70 (N : Nat)   (S : pm_S) : Option (Int32 × pm_S) :=
    some (0, S)
set_option maxHeartbeats 4000000 in
set_option maxRecDepth 20000 in
theorem f_M_goesHome_70 (sp : pm_I → List Value → pm_S → pm_O → Prop) (d N : Nat)   (S : pm_S)  (r : (Int32 × pm_S)) (h : F_M_goesHome_70 N   S = some r) : pmE pG (pm_rel pG sp (d + 2)) mi_M_goesHome 70 [none, none, none] [] S (some (.int r.1), r.2) := by
  unfold F_M_goesHome_70 at h
  refine pE_jump 1 (pc' := 71) (ls' := [none, none, none]) (st' := [.int 0]) (fun _ => rfl) ?_
  cases h
  exact pE_ret rfl rfl rfl
def F_M_goesHome_64 (N : Nat) (rec2 : Int32 → pm_S → Option (Int32 × pm_S)) (x0 : Nat) (x1 : Int32) (x2 : Int32) (S : pm_S) : Option (Int32 × pm_S) :=
    rec2 (x2 + 1) S
set_option maxHeartbeats 4000000 in
set_option maxRecDepth 20000 in
theorem f_M_goesHome_64 (sp : pm_I → List Value → pm_S → pm_O → Prop) (d N : Nat) (rec2 : Int32 → pm_S → Option (Int32 × pm_S)) (x0 : Nat) (x1 : Int32) (x2 : Int32) (S : pm_S) (hrec2 : ∀ (y1 : Int32) (U : pm_S) (r : (Int32 × pm_S)), rec2 y1 U = some r → pmE pG (pm_rel pG sp (d + 2)) mi_M_goesHome 2 [some (.ref x0), some (.int x1), some (.int y1)] [] U (some (.int r.1), r.2)) (r : (Int32 × pm_S)) (h : F_M_goesHome_64 N rec2 x0 x1 x2 S = some r) : pmE pG (pm_rel pG sp (d + 2)) mi_M_goesHome 64 [some (.ref x0), some (.int x1), some (.int x2)] [] S (some (.int r.1), r.2) := by
  unfold F_M_goesHome_64 at h
  refine pE_jump 2 (pc' := 2) (ls' := [some (.ref x0), some (.int x1), some (.int (x2 + 1))]) (st' := []) (fun _ => rfl) ?_
  exact hrec2 (x2 + 1) S _ h
def F_M_goesHome_42 (N : Nat)  (x0 : Nat) (x1 : Int32) (x2 : Int32) (S : pm_S) : Option (Int32 × pm_S) :=
    (oR S x0 11 53).bind fun oq9 => match oq9 with
    | none => none
    | some q9 =>
    (oI S x0 11 29).bind fun v11 =>
    (aI [0, 6] S q9 ((10 * v11) + x2)).bind fun v12 =>
    (F_M_goes N S x0 x1 x2 v12).bind fun S13 =>
    some (1, S13)
set_option maxHeartbeats 4000000 in
set_option maxRecDepth 20000 in
theorem f_M_goesHome_42 (sp : pm_I → List Value → pm_S → pm_O → Prop) (d N : Nat)  (x0 : Nat) (x1 : Int32) (x2 : Int32) (S : pm_S)  (r : (Int32 × pm_S)) (h : F_M_goesHome_42 N  x0 x1 x2 S = some r) : pmE pG (pm_rel pG sp (d + 2)) mi_M_goesHome 42 [some (.ref x0), some (.int x1), some (.int x2)] [] S (some (.int r.1), r.2) := by
  unfold F_M_goesHome_42 at h
  refine pE_jump 4 (pc' := 46) (ls' := [some (.ref x0), some (.int x1), some (.int x2)]) (st' := [.ref x0, .int x2, .int x1, .ref x0]) (fun _ => rfl) ?_
  obtain ⟨oq9, hq9, h⟩ := obind h
  cases oq9 with
  | none => cases h
  | some q9 =>
    try dsimp only at h
    refine pE_gfS rfl rfl hq9 ?_
    refine pE_jump 2 (pc' := 52) (ls' := [some (.ref x0), some (.int x1), some (.int x2)]) (st' := [.ref x0, .int 10, .ref q9, .int x2, .int x1, .ref x0]) (fun _ => rfl) ?_
    obtain ⟨v11, hv11, h⟩ := obind h
    refine pE_gfI rfl rfl hv11 ?_
    refine pE_jump 3 (pc' := 58) (ls' := [some (.ref x0), some (.int x1), some (.int x2)]) (st' := [.int ((10 * v11) + x2), .ref q9, .int x2, .int x1, .ref x0]) (fun _ => rfl) ?_
    obtain ⟨v12, hv12, h⟩ := obind h
    refine pE_aI rfl rfl hv12 ?_
    obtain ⟨S13, hS13, h⟩ := obind h
    refine pE_iv (Bs := [.int x1, .int x2, .int v12]) (st := []) 1 rfl (Or.inl ⟨rfl, rfl⟩) rfl rfl (Nat.le_of_ble_eq_true rfl) (Nat.le_of_ble_eq_true rfl) (g_M_goes hS13) (f_M_goes sp d N S x0 x1 x2 v12 _ hS13) ?_
    refine pE_jump 1 (pc' := 63) (ls' := [some (.ref x0), some (.int x1), some (.int x2)]) (st' := [.int 1]) (fun _ => rfl) ?_
    cases h
    exact pE_ret rfl rfl rfl
def B_M_goesHome_2 (N : Nat)  (rec2 : Int32 → pm_S → Option (Int32 × pm_S)) (x0 : Nat) (x1 : Int32) (x2 : Int32) (S : pm_S) : Option (Int32 × pm_S) :=
    if 10 ≤ x2 then
    F_M_goesHome_70 N S
    else
    ((F_M_isAstray N S x0 x1 x2).bind fun (v2, S1) =>
    if v2 = 0 then
    F_M_goesHome_64 N rec2 x0 x1 x2 S1
    else
    ((oR S1 x0 11 53).bind fun oq3 => match oq3 with
    | none => none
    | some q3 =>
    (oI S1 x0 11 29).bind fun v5 =>
    (aI [0, 6] S1 q3 ((10 * v5) + x2)).bind fun v6 =>
    (F_M_isFree N S1 x0 x1 v6).bind fun (v8, S7) =>
    if v8 = 0 then
    F_M_goesHome_64 N rec2 x0 x1 x2 S7
    else
    F_M_goesHome_42 N x0 x1 x2 S7))
def F_M_goesHome_2 (N : Nat)  (x0 : Nat) (x1 : Int32) : Nat → Int32 → pm_S → Option (Int32 × pm_S)
  | 0 => fun _ _ => none
  | n + 1 => fun x2 S => B_M_goesHome_2 N  (F_M_goesHome_2 N  x0 x1 n) x0 x1 x2 S
set_option maxHeartbeats 4000000 in
set_option maxRecDepth 20000 in
theorem f_M_goesHome_2 (sp : pm_I → List Value → pm_S → pm_O → Prop) (d N : Nat)  (x0 : Nat) (x1 : Int32)  : ∀ (n : Nat) (x2 : Int32) (S : pm_S) (r : (Int32 × pm_S)), F_M_goesHome_2 N  x0 x1 n x2 S = some r → pmE pG (pm_rel pG sp (d + 2)) mi_M_goesHome 2 [some (.ref x0), some (.int x1), some (.int x2)] [] S (some (.int r.1), r.2) := by
  intro n
  induction n with
  | zero =>
    intro x2 S r h
    cases h
  | succ n ih =>
    intro x2 S r h
    replace h : B_M_goesHome_2 N  (F_M_goesHome_2 N  x0 x1 n) x0 x1 x2 S = some r := h
    have hrec2 := ih
    generalize F_M_goesHome_2 N  x0 x1 n = rec2 at h hrec2
    unfold B_M_goesHome_2 at h
    refine pE_jump 2 (pc' := 5) (ls' := [some (.ref x0), some (.int x1), some (.int x2)]) (st' := [.int 10, .int x2]) (fun _ => rfl) ?_
    refine pE_br (10 ≤ x2) rfl rfl (fun c16 => ?_) (fun c16 => ?_)
    · rw [if_pos c16] at h
      refine pE_weak [none, none, none] trivial ?_
      exact f_M_goesHome_70 sp d N S _ h
    · rw [if_neg c16] at h
      refine pE_jump 3 (pc' := 11) (ls' := [some (.ref x0), some (.int x1), some (.int x2)]) (st' := [.int x2, .int x1, .ref x0]) (fun _ => rfl) ?_
      obtain ⟨⟨v2, S1⟩, hv2, h⟩ := obind h
      try dsimp only at h
      refine pE_iv (Bs := [.int x1, .int x2]) (st := []) 1 rfl (Or.inl ⟨rfl, rfl⟩) rfl rfl (Nat.le_of_ble_eq_true rfl) (Nat.le_of_ble_eq_true rfl) (g_M_isAstray hv2) (f_M_isAstray sp d N S x0 x1 x2 _ hv2) ?_
      refine pE_br (v2 = 0) rfl rfl (fun c15 => ?_) (fun c15 => ?_)
      · rw [if_pos c15] at h
        exact f_M_goesHome_64 sp d N rec2 x0 x1 x2 S1 hrec2 _ h
      · rw [if_neg c15] at h
        refine pE_jump 3 (pc' := 20) (ls' := [some (.ref x0), some (.int x1), some (.int x2)]) (st' := [.ref x0, .int x1, .ref x0]) (fun _ => rfl) ?_
        obtain ⟨oq3, hq3, h⟩ := obind h
        cases oq3 with
        | none => cases h
        | some q3 =>
          try dsimp only at h
          refine pE_gfS rfl rfl hq3 ?_
          refine pE_jump 2 (pc' := 26) (ls' := [some (.ref x0), some (.int x1), some (.int x2)]) (st' := [.ref x0, .int 10, .ref q3, .int x1, .ref x0]) (fun _ => rfl) ?_
          obtain ⟨v5, hv5, h⟩ := obind h
          refine pE_gfI rfl rfl hv5 ?_
          refine pE_jump 3 (pc' := 32) (ls' := [some (.ref x0), some (.int x1), some (.int x2)]) (st' := [.int ((10 * v5) + x2), .ref q3, .int x1, .ref x0]) (fun _ => rfl) ?_
          obtain ⟨v6, hv6, h⟩ := obind h
          refine pE_aI rfl rfl hv6 ?_
          obtain ⟨⟨v8, S7⟩, hv8, h⟩ := obind h
          try dsimp only at h
          refine pE_iv (Bs := [.int x1, .int v6]) (st := []) 1 rfl (Or.inl ⟨rfl, rfl⟩) rfl rfl (Nat.le_of_ble_eq_true rfl) (Nat.le_of_ble_eq_true rfl) (g_M_isFree hv8) (f_M_isFree sp d N S1 x0 x1 v6 _ hv8) ?_
          refine pE_br (¬ v8 = 0) rfl rfl (fun c14 => ?_) (fun c14 => ?_)
          · rw [if_neg c14] at h
            exact f_M_goesHome_42 sp d N x0 x1 x2 S7 _ h
          · have c14 := Decidable.not_not.mp c14
            rw [if_pos c14] at h
            refine pE_jump 1 (pc' := 64) (ls' := [some (.ref x0), some (.int x1), some (.int x2)]) (st' := []) (fun _ => rfl) ?_
            exact f_M_goesHome_64 sp d N rec2 x0 x1 x2 S7 hrec2 _ h
def F_M_goesHome (N : Nat) (S : pm_S) (a : Nat) (p0 : Int32) : Option (Int32 × pm_S) :=
    if rcv S a 11 = true then
    (F_M_goesHome_2 N a p0 N 0 S)
    else none
theorem g_M_goesHome {N : Nat} {S : pm_S} {a : Nat} {p0 : Int32} {r : (Int32 × pm_S)} (h : F_M_goesHome N S a p0 = some r) : rcv S a 11 = true := by
  unfold F_M_goesHome at h
  by_cases c : rcv S a 11 = true
  · exact c
  · rw [if_neg c] at h; cases h
set_option maxHeartbeats 4000000 in
set_option maxRecDepth 20000 in
theorem f_M_goesHome (sp : pm_I → List Value → pm_S → pm_O → Prop) (d N : Nat) (S : pm_S) (a : Nat) (p0 : Int32) (r : (Int32 × pm_S)) (h : F_M_goesHome N S a p0 = some r) : pm_rel pG sp (d + 3) mi_M_goesHome [.ref a, .int p0] S (some (.int r.1), r.2) := by
  have hg := g_M_goesHome h
  unfold F_M_goesHome at h
  rw [if_pos hg] at h
  refine pE_rel (d := d + 2) ?_
  show pmE pG _ mi_M_goesHome 0 [some (.ref a), some (.int p0), none] [] S _
  refine pE_jump 2 (pc' := 2) (ls' := [some (.ref a), some (.int p0), some (.int 0)]) (st' := []) (fun _ => rfl) ?_
  exact f_M_goesHome_2 sp d N a p0 N 0 S _ h
