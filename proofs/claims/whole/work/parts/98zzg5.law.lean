def F_Law_law (cab : pm_S → Nat → Int32 → Int32 → Int32 → Nat → Option (Int32 × pm_S)) (N : Nat) (S : pm_S) (p0 : Nat) : Option (Int32 × pm_S) :=
    (some (ps_hi S, pm_al S 7 (.inr (10, [.null, .null, .null, .null, .null, .null, .int 0])))).bind fun (q2, S1) =>
    (F_BP_init N S1 q2).bind fun S3 =>
    (some (ps_hi S3, pm_al S3 58 (.inr (11, [.int 0, .null, .int 0, .int 0, .int 0, .int 0, .null, .null, .null, .null, .null, .null, .null, .null, .null, .null, .null, .null, .null, .int 0, .null, .null, .null, .null, .null, .null, .null, .null, .null, .int 0, .int 0, .int 0, .int 0, .int 0, .int 0, .null, .null, .null, .null, .null, .null, .null, .null, .null, .null, .null, .null, .null, .null, .null, .null, .int 0, .int 0, .null, .null, .null, .null, .int 0])))).bind fun (q5, S4) =>
    (F_M_init N S4 q5).bind fun S6 =>
    (nA S6 1 1).bind fun (q7, S8) =>
    F_Law_law_23 cab N p0 q2 q5 q7 N 0 S8
set_option maxHeartbeats 4000000 in
set_option maxRecDepth 20000 in
theorem f_Law_law (cab : pm_S → Nat → Int32 → Int32 → Int32 → Nat → Option (Int32 × pm_S)) (sp : pm_I → List Value → pm_S → pm_O → Prop) (hcab : ∀ S a p0 p1 p2 o r, cab S a p0 p1 p2 o = some r → sp mi_Law_cable [.ref a, .int p0, .int p1, .int p2, .ref o] S (some (.int r.1), r.2)) (d N : Nat) (S : pm_S) (p0 : Nat) (r : (Int32 × pm_S)) (h : F_Law_law cab N S p0 = some r) : pmE pG (pm_rel pG sp (d + 10)) mi_Law_law 0 [some (.ref p0), none, none, none, none, none, none] [] S (some (.int r.1), r.2) := by
  unfold F_Law_law at h
  obtain ⟨⟨q2, S1⟩, hq2, h⟩ := obind h
  try dsimp only at h
  refine pE_new rfl rfl ?_
  obtain ⟨rfl, rfl⟩ : ps_hi S = q2 ∧ pm_al S 7 (.inr (10, [.null, .null, .null, .null, .null, .null, .int 0])) = S1 := by cases hq2; exact ⟨rfl, rfl⟩
  refine pE_jump 1 (pc' := 4) (ls' := [some (.ref p0), none, none, none, none, none, none]) (st' := [.ref (ps_hi S), .ref (ps_hi S)]) (fun _ => rfl) ?_
  obtain ⟨S3, hS3, h⟩ := obind h
  refine pE_iv (Bs := []) (st := [.ref (ps_hi S)]) 2 rfl (Or.inr ⟨rfl, rfl⟩) rfl rfl (Nat.le_of_ble_eq_true rfl) (Nat.le_of_ble_eq_true rfl) (g_BP_init hS3) (f_BP_init sp (d + 4) N (pm_al S 7 (.inr (10, [.null, .null, .null, .null, .null, .null, .int 0]))) (ps_hi S) _ hS3) ?_
  refine pE_jump 1 (pc' := 8) (ls' := [some (.ref p0), some (.ref (ps_hi S)), none, none, none, none, none]) (st' := []) (fun _ => rfl) ?_
  obtain ⟨⟨q5, S4⟩, hq5, h⟩ := obind h
  try dsimp only at h
  refine pE_new rfl rfl ?_
  obtain ⟨rfl, rfl⟩ : ps_hi S3 = q5 ∧ pm_al S3 58 (.inr (11, [.int 0, .null, .int 0, .int 0, .int 0, .int 0, .null, .null, .null, .null, .null, .null, .null, .null, .null, .null, .null, .null, .null, .int 0, .null, .null, .null, .null, .null, .null, .null, .null, .null, .int 0, .int 0, .int 0, .int 0, .int 0, .int 0, .null, .null, .null, .null, .null, .null, .null, .null, .null, .null, .null, .null, .null, .null, .null, .null, .int 0, .int 0, .null, .null, .null, .null, .int 0])) = S4 := by cases hq5; exact ⟨rfl, rfl⟩
  refine pE_jump 1 (pc' := 12) (ls' := [some (.ref p0), some (.ref (ps_hi S)), none, none, none, none, none]) (st' := [.ref (ps_hi S3), .ref (ps_hi S3)]) (fun _ => rfl) ?_
  obtain ⟨S6, hS6, h⟩ := obind h
  refine pE_iv (Bs := []) (st := [.ref (ps_hi S3)]) 2 rfl (Or.inr ⟨rfl, rfl⟩) rfl rfl (Nat.le_of_ble_eq_true rfl) (Nat.le_of_ble_eq_true rfl) (g_M_init hS6) (f_M_init sp (d + 9) N (pm_al S3 58 (.inr (11, [.int 0, .null, .int 0, .int 0, .int 0, .int 0, .null, .null, .null, .null, .null, .null, .null, .null, .null, .null, .null, .null, .null, .int 0, .null, .null, .null, .null, .null, .null, .null, .null, .null, .int 0, .int 0, .int 0, .int 0, .int 0, .int 0, .null, .null, .null, .null, .null, .null, .null, .null, .null, .null, .null, .null, .null, .null, .null, .null, .int 0, .int 0, .null, .null, .null, .null, .int 0]))) (ps_hi S3) _ hS6) ?_
  refine pE_jump 2 (pc' := 17) (ls' := [some (.ref p0), some (.ref (ps_hi S)), some (.ref (ps_hi S3)), none, none, none, none]) (st' := [.int 1]) (fun _ => rfl) ?_
  obtain ⟨⟨q7, S8⟩, hq7, h⟩ := obind h
  refine pE_nA rfl rfl hq7 ?_
  try dsimp only at h
  refine pE_jump 3 (pc' := 23) (ls' := [some (.ref p0), some (.ref (ps_hi S)), some (.ref (ps_hi S3)), some (.ref q7), some (.int 0), none, none]) (st' := []) (fun _ => rfl) ?_
  exact f_Law_law_23 cab sp hcab d N p0 (ps_hi S) (ps_hi S3) q7 N 0 S8 _ h