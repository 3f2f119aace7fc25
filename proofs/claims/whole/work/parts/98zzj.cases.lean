section CAT
variable {h0 : Nat → pm_C} {B : Nat} {D : Nat → pd} {hi z : Nat} {s : mst} {N b L k eb : Nat} {xs : Nat → Int32} {cab : pm_S → Nat → Int32 → Int32 → Int32 → Nat → Option (Int32 × pm_S)} {rec23 : Int32 → pm_S → Option (Int32 × pm_S)}
theorem k_1119 (hN : 2000 ≤ N) (hsc : SC h0 B b L xs) (hk : k + 9 ≤ L) (h : IAX eb D hi z s) : ∃ D' hi' z' s', F_Law_law_1119 cab N rec23 b (B + 0) (B + 85) (B + 129) (nI k) (mkM h0 B D hi z s) = rec23 (nI (k + 9)) (mkM h0 B D' hi' z' s') ∧ IAX eb D' hi' z' s' := by
  obtain ⟨ans, D', hi', z', s1, s3, e1', f1, e2', g⟩ := st_spare (h0 := h0) (B := B) (N := N) (eb := eb) (p0 := (xs (k + 1))) (p1 := (xs (k + 2))) (p2 := (xs (k + 3))) hN D hi z s h
  have e1 : F_BP_spare N (mkM h0 B D hi z s) (B + 0) (xs (k + 1)) (xs (k + 2)) (xs (k + 3)) = some (ans, mkM h0 B D' hi' z' s1) := e1'
  have e2 : G_M_spare N s1 (xs (k + 1)) (xs (k + 2)) (xs (k + 3)) = some (ans, s3) := e2'
  have e3 : F_M_spare N (mkM h0 B D' hi' z' s1) (B + 85) (xs (k + 1)) (xs (k + 2)) (xs (k + 3)) = some (ans, mkM h0 B D' hi' z' s3) := by rw [sg_M_spare f1, e2]; rfl
  refine ⟨D', hi', z', s3, ?_, g⟩
  unfold F_Law_law_1119
  rw [xk_1, xk_2, xk_3]
  rw [sc_r hsc (show k + 1 < L by omega), Option.bind_some]
  rw [sc_r hsc (show k + 2 < L by omega), Option.bind_some]
  rw [sc_r hsc (show k + 3 < L by omega), Option.bind_some]
  rw [e1, Option.bind_some]
  dsimp only
  rw [sc_r hsc (show k + 1 < L by omega), Option.bind_some]
  rw [sc_r hsc (show k + 2 < L by omega), Option.bind_some]
  rw [sc_r hsc (show k + 3 < L by omega), Option.bind_some]
  rw [e3, Option.bind_some]
  dsimp only
  rw [if_pos rfl]
  unfold F_Law_law_1958
  rw [xk_9]
theorem k_1168 (hN : 2000 ≤ N) (hsc : SC h0 B b L xs) (hk : k + 9 ≤ L) (h : IAX eb D hi z s) : ∃ D' hi' z' s', F_Law_law_1168 cab N rec23 b (B + 0) (B + 85) (B + 129) (nI k) (mkM h0 B D hi z s) = rec23 (nI (k + 9)) (mkM h0 B D' hi' z' s') ∧ IAX eb D' hi' z' s' := by
  obtain ⟨ans, D', hi', z', s1, s3, e1', f1, e2', g⟩ := st_test (h0 := h0) (B := B) (N := N) (eb := eb) (p0 := (xs (k + 1))) (p1 := (xs (k + 2))) (p2 := (xs (k + 3))) (p3 := (xs (k + 4))) (p4 := (xs (k + 5))) (p5 := (xs (k + 6))) (p6 := (xs (k + 7))) D hi z s h
  have e1 : F_BP_test N (mkM h0 B D hi z s) (B + 0) (xs (k + 1)) (xs (k + 2)) (xs (k + 3)) (xs (k + 4)) (xs (k + 5)) (xs (k + 6)) (xs (k + 7)) = some (ans, mkM h0 B D' hi' z' s1) := e1'
  have e2 : G_M_test N s1 (xs (k + 1)) (xs (k + 2)) (xs (k + 3)) (xs (k + 4)) (xs (k + 5)) (xs (k + 6)) (xs (k + 7)) = some (ans, s3) := e2'
  have e3 : F_M_test N (mkM h0 B D' hi' z' s1) (B + 85) (xs (k + 1)) (xs (k + 2)) (xs (k + 3)) (xs (k + 4)) (xs (k + 5)) (xs (k + 6)) (xs (k + 7)) = some (ans, mkM h0 B D' hi' z' s3) := by rw [sg_M_test f1, e2]; rfl
  refine ⟨D', hi', z', s3, ?_, g⟩
  unfold F_Law_law_1168
  rw [xk_1, xk_2, xk_3, xk_4, xk_5, xk_6, xk_7]
  rw [sc_r hsc (show k + 1 < L by omega), Option.bind_some]
  rw [sc_r hsc (show k + 2 < L by omega), Option.bind_some]
  rw [sc_r hsc (show k + 3 < L by omega), Option.bind_some]
  rw [sc_r hsc (show k + 4 < L by omega), Option.bind_some]
  rw [sc_r hsc (show k + 5 < L by omega), Option.bind_some]
  rw [sc_r hsc (show k + 6 < L by omega), Option.bind_some]
  rw [sc_r hsc (show k + 7 < L by omega), Option.bind_some]
  rw [e1, Option.bind_some]
  dsimp only
  rw [sc_r hsc (show k + 1 < L by omega), Option.bind_some]
  rw [sc_r hsc (show k + 2 < L by omega), Option.bind_some]
  rw [sc_r hsc (show k + 3 < L by omega), Option.bind_some]
  rw [sc_r hsc (show k + 4 < L by omega), Option.bind_some]
  rw [sc_r hsc (show k + 5 < L by omega), Option.bind_some]
  rw [sc_r hsc (show k + 6 < L by omega), Option.bind_some]
  rw [sc_r hsc (show k + 7 < L by omega), Option.bind_some]
  rw [e3, Option.bind_some]
  dsimp only
  rw [if_pos rfl]
  unfold F_Law_law_1958
  rw [xk_9]
theorem k_1269 (hN : 2000 ≤ N) (hsc : SC h0 B b L xs) (hk : k + 9 ≤ L) (h : IAX eb D hi z s) : ∃ D' hi' z' s', F_Law_law_1269 cab N rec23 b (B + 0) (B + 85) (B + 129) (nI k) (mkM h0 B D hi z s) = rec23 (nI (k + 9)) (mkM h0 B D' hi' z' s') ∧ IAX eb D' hi' z' s' := by
  by_cases c : xs (k + 4) = 0
  · obtain ⟨ans, D', hi', z', s1, s3, e1', f1, e2', g⟩ := st_tells (h0 := h0) (B := B) (N := N) (eb := eb) (p0 := (xs (k + 1))) (p1 := (xs (k + 2))) (p2 := (xs (k + 3))) (wet := 0) (by decide) hN D hi z s h
    have e1 : F_BP_tells N (mkM h0 B D hi z s) (B + 0) (xs (k + 1)) (xs (k + 2)) (xs (k + 3)) 0 = some (ans, mkM h0 B D' hi' z' s1) := e1'
    have e2 : G_M_tells N s1 (xs (k + 1)) (xs (k + 2)) (xs (k + 3)) 0 = some (ans, s3) := e2'
    have e3 : F_M_tells N (mkM h0 B D' hi' z' s1) (B + 85) (xs (k + 1)) (xs (k + 2)) (xs (k + 3)) 0 = some (ans, mkM h0 B D' hi' z' s3) := by rw [sg_M_tells f1, e2]; rfl
    refine ⟨D', hi', z', s3, ?_, g⟩
    unfold F_Law_law_1269
    rw [xk_1, xk_2, xk_3, xk_4]
    rw [sc_r hsc (show k + 1 < L by omega), Option.bind_some]
    rw [sc_r hsc (show k + 2 < L by omega), Option.bind_some]
    rw [sc_r hsc (show k + 3 < L by omega), Option.bind_some]
    rw [sc_r hsc (show k + 4 < L by omega), Option.bind_some]
    rw [if_pos c]
    unfold F_Law_law_1302
    rw [xk_1, xk_2, xk_3, xk_4]
    rw [e1, Option.bind_some]
    dsimp only
    rw [sc_r hsc (show k + 1 < L by omega), Option.bind_some]
    rw [sc_r hsc (show k + 2 < L by omega), Option.bind_some]
    rw [sc_r hsc (show k + 3 < L by omega), Option.bind_some]
    rw [sc_r hsc (show k + 4 < L by omega), Option.bind_some]
    rw [if_pos c]
    unfold F_Law_law_1338
    rw [e3, Option.bind_some]
    dsimp only
    rw [if_pos rfl]
    unfold F_Law_law_1958
    rw [xk_9]
  · obtain ⟨ans, D', hi', z', s1, s3, e1', f1, e2', g⟩ := st_tells (h0 := h0) (B := B) (N := N) (eb := eb) (p0 := (xs (k + 1))) (p1 := (xs (k + 2))) (p2 := (xs (k + 3))) (wet := 1) (by decide) hN D hi z s h
    have e1 : F_BP_tells N (mkM h0 B D hi z s) (B + 0) (xs (k + 1)) (xs (k + 2)) (xs (k + 3)) 1 = some (ans, mkM h0 B D' hi' z' s1) := e1'
    have e2 : G_M_tells N s1 (xs (k + 1)) (xs (k + 2)) (xs (k + 3)) 1 = some (ans, s3) := e2'
    have e3 : F_M_tells N (mkM h0 B D' hi' z' s1) (B + 85) (xs (k + 1)) (xs (k + 2)) (xs (k + 3)) 1 = some (ans, mkM h0 B D' hi' z' s3) := by rw [sg_M_tells f1, e2]; rfl
    refine ⟨D', hi', z', s3, ?_, g⟩
    unfold F_Law_law_1269
    rw [xk_1, xk_2, xk_3, xk_4]
    rw [sc_r hsc (show k + 1 < L by omega), Option.bind_some]
    rw [sc_r hsc (show k + 2 < L by omega), Option.bind_some]
    rw [sc_r hsc (show k + 3 < L by omega), Option.bind_some]
    rw [sc_r hsc (show k + 4 < L by omega), Option.bind_some]
    rw [if_neg c]
    unfold F_Law_law_1302
    rw [xk_1, xk_2, xk_3, xk_4]
    rw [e1, Option.bind_some]
    dsimp only
    rw [sc_r hsc (show k + 1 < L by omega), Option.bind_some]
    rw [sc_r hsc (show k + 2 < L by omega), Option.bind_some]
    rw [sc_r hsc (show k + 3 < L by omega), Option.bind_some]
    rw [sc_r hsc (show k + 4 < L by omega), Option.bind_some]
    rw [if_neg c]
    unfold F_Law_law_1338
    rw [e3, Option.bind_some]
    dsimp only
    rw [if_pos rfl]
    unfold F_Law_law_1958
    rw [xk_9]
theorem k_1346 (hN : 2000 ≤ N) (hsc : SC h0 B b L xs) (hk : k + 9 ≤ L) (h : IAX eb D hi z s) : ∃ D' hi' z' s', F_Law_law_1346 cab N rec23 b (B + 0) (B + 85) (B + 129) (nI k) (mkM h0 B D hi z s) = rec23 (nI (k + 9)) (mkM h0 B D' hi' z' s') ∧ IAX eb D' hi' z' s' := by
  by_cases c : xs (k + 3) = 0
  · obtain ⟨ans, D', hi', z', s1, s3, e1', f1, e2', g⟩ := st_read (h0 := h0) (B := B) (N := N) (eb := eb) (p0 := (xs (k + 1))) (p1 := (xs (k + 2))) (wet := 0) (p3 := (xs (k + 4))) (by decide) D hi z s h
    have e1 : F_BP_read N (mkM h0 B D hi z s) (B + 0) (xs (k + 1)) (xs (k + 2)) 0 (xs (k + 4)) = some (ans, mkM h0 B D' hi' z' s1) := e1'
    have e2 : G_M_read N s1 (xs (k + 1)) (xs (k + 2)) 0 (xs (k + 4)) = some (ans, s3) := e2'
    have e3 : F_M_read N (mkM h0 B D' hi' z' s1) (B + 85) (xs (k + 1)) (xs (k + 2)) 0 (xs (k + 4)) = some (ans, mkM h0 B D' hi' z' s3) := by rw [sg_M_read f1, e2]; rfl
    refine ⟨D', hi', z', s3, ?_, g⟩
    unfold F_Law_law_1346
    rw [xk_1, xk_2, xk_3]
    rw [sc_r hsc (show k + 1 < L by omega), Option.bind_some]
    rw [sc_r hsc (show k + 2 < L by omega), Option.bind_some]
    rw [sc_r hsc (show k + 3 < L by omega), Option.bind_some]
    rw [if_pos c]
    unfold F_Law_law_1373
    rw [xk_4, xk_1, xk_2, xk_3]
    rw [sc_r hsc (show k + 4 < L by omega), Option.bind_some]
    rw [e1, Option.bind_some]
    dsimp only
    rw [sc_r hsc (show k + 1 < L by omega), Option.bind_some]
    rw [sc_r hsc (show k + 2 < L by omega), Option.bind_some]
    rw [sc_r hsc (show k + 3 < L by omega), Option.bind_some]
    rw [if_pos c]
    unfold F_Law_law_1409
    rw [xk_4]
    rw [sc_r hsc (show k + 4 < L by omega), Option.bind_some]
    rw [e3, Option.bind_some]
    dsimp only
    rw [if_pos rfl]
    unfold F_Law_law_1958
    rw [xk_9]
  · obtain ⟨ans, D', hi', z', s1, s3, e1', f1, e2', g⟩ := st_read (h0 := h0) (B := B) (N := N) (eb := eb) (p0 := (xs (k + 1))) (p1 := (xs (k + 2))) (wet := 1) (p3 := (xs (k + 4))) (by decide) D hi z s h
    have e1 : F_BP_read N (mkM h0 B D hi z s) (B + 0) (xs (k + 1)) (xs (k + 2)) 1 (xs (k + 4)) = some (ans, mkM h0 B D' hi' z' s1) := e1'
    have e2 : G_M_read N s1 (xs (k + 1)) (xs (k + 2)) 1 (xs (k + 4)) = some (ans, s3) := e2'
    have e3 : F_M_read N (mkM h0 B D' hi' z' s1) (B + 85) (xs (k + 1)) (xs (k + 2)) 1 (xs (k + 4)) = some (ans, mkM h0 B D' hi' z' s3) := by rw [sg_M_read f1, e2]; rfl
    refine ⟨D', hi', z', s3, ?_, g⟩
    unfold F_Law_law_1346
    rw [xk_1, xk_2, xk_3]
    rw [sc_r hsc (show k + 1 < L by omega), Option.bind_some]
    rw [sc_r hsc (show k + 2 < L by omega), Option.bind_some]
    rw [sc_r hsc (show k + 3 < L by omega), Option.bind_some]
    rw [if_neg c]
    unfold F_Law_law_1373
    rw [xk_4, xk_1, xk_2, xk_3]
    rw [sc_r hsc (show k + 4 < L by omega), Option.bind_some]
    rw [e1, Option.bind_some]
    dsimp only
    rw [sc_r hsc (show k + 1 < L by omega), Option.bind_some]
    rw [sc_r hsc (show k + 2 < L by omega), Option.bind_some]
    rw [sc_r hsc (show k + 3 < L by omega), Option.bind_some]
    rw [if_neg c]
    unfold F_Law_law_1409
    rw [xk_4]
    rw [sc_r hsc (show k + 4 < L by omega), Option.bind_some]
    rw [e3, Option.bind_some]
    dsimp only
    rw [if_pos rfl]
    unfold F_Law_law_1958
    rw [xk_9]
theorem k_1423 (hN : 2000 ≤ N) (hsc : SC h0 B b L xs) (hk : k + 9 ≤ L) (h : IAX eb D hi z s) : ∃ D' hi' z' s', F_Law_law_1423 cab N rec23 b (B + 0) (B + 85) (B + 129) (nI k) (mkM h0 B D hi z s) = rec23 (nI (k + 9)) (mkM h0 B D' hi' z' s') ∧ IAX eb D' hi' z' s' := by
  obtain ⟨ans, D', hi', z', s1, s3, e1', f1, e2', g⟩ := st_unread (h0 := h0) (B := B) (N := N) (eb := eb) (p0 := (xs (k + 1))) D hi z s h
  have e1 : F_BP_unread N (mkM h0 B D hi z s) (B + 0) (xs (k + 1)) = some (ans, mkM h0 B D' hi' z' s1) := e1'
  have e2 : G_M_unread N s1 (xs (k + 1)) = some (ans, s3) := e2'
  have e3 : F_M_unread N (mkM h0 B D' hi' z' s1) (B + 85) (xs (k + 1)) = some (ans, mkM h0 B D' hi' z' s3) := by rw [sg_M_unread f1, e2]; rfl
  refine ⟨D', hi', z', s3, ?_, g⟩
  unfold F_Law_law_1423
  rw [xk_1]
  rw [sc_r hsc (show k + 1 < L by omega), Option.bind_some]
  rw [e1, Option.bind_some]
  dsimp only
  rw [sc_r hsc (show k + 1 < L by omega), Option.bind_some]
  rw [e3, Option.bind_some]
  dsimp only
  rw [if_pos rfl]
  unfold F_Law_law_1958
  rw [xk_9]
theorem k_1448 (hN : 2000 ≤ N) (hsc : SC h0 B b L xs) (hk : k + 9 ≤ L) (h : IAX eb D hi z s) : ∃ D' hi' z' s', F_Law_law_1448 cab N rec23 b (B + 0) (B + 85) (B + 129) (nI k) (mkM h0 B D hi z s) = rec23 (nI (k + 9)) (mkM h0 B D' hi' z' s') ∧ IAX eb D' hi' z' s' := by
  obtain ⟨ans, D', hi', z', s1, s3, e1', f1, e2', g⟩ := st_fitting (h0 := h0) (B := B) (N := N) (eb := eb) (p0 := (xs (k + 1))) (p1 := (xs (k + 2))) hN D hi z s h
  have e1 : F_BP_fitting N (mkM h0 B D hi z s) (B + 0) (xs (k + 1)) (xs (k + 2)) = some (ans, mkM h0 B D' hi' z' s1) := e1'
  have e2 : G_M_fitting N s1 (xs (k + 1)) (xs (k + 2)) = some (ans, s3) := e2'
  have e3 : F_M_fitting N (mkM h0 B D' hi' z' s1) (B + 85) (xs (k + 1)) (xs (k + 2)) = some (ans, mkM h0 B D' hi' z' s3) := by rw [sg_M_fitting f1, e2]; rfl
  refine ⟨D', hi', z', s3, ?_, g⟩
  unfold F_Law_law_1448
  rw [xk_1, xk_2]
  rw [sc_r hsc (show k + 1 < L by omega), Option.bind_some]
  rw [sc_r hsc (show k + 2 < L by omega), Option.bind_some]
  rw [e1, Option.bind_some]
  dsimp only
  rw [sc_r hsc (show k + 1 < L by omega), Option.bind_some]
  rw [sc_r hsc (show k + 2 < L by omega), Option.bind_some]
  rw [e3, Option.bind_some]
  dsimp only
  rw [if_pos rfl]
  unfold F_Law_law_1958
  rw [xk_9]
theorem k_1485 (hN : 2000 ≤ N) (hsc : SC h0 B b L xs) (hk : k + 9 ≤ L) (h : IAX eb D hi z s) : ∃ D' hi' z' s', F_Law_law_1485 cab N rec23 b (B + 0) (B + 85) (B + 129) (nI k) (mkM h0 B D hi z s) = rec23 (nI (k + 9)) (mkM h0 B D' hi' z' s') ∧ IAX eb D' hi' z' s' := by
  obtain ⟨ans, D', hi', z', s1, s3, e1', f1, e2', g⟩ := st_fewest (h0 := h0) (B := B) (N := N) (eb := eb) (p0 := (xs (k + 1))) hN D hi z s h
  have e1 : F_BP_fewest N (mkM h0 B D hi z s) (B + 0) (xs (k + 1)) = some (ans, mkM h0 B D' hi' z' s1) := e1'
  have e2 : G_M_fewest N s1 (xs (k + 1)) = some (ans, s3) := e2'
  have e3 : F_M_fewest N (mkM h0 B D' hi' z' s1) (B + 85) (xs (k + 1)) = some (ans, mkM h0 B D' hi' z' s3) := by rw [sg_M_fewest f1, e2]; rfl
  refine ⟨D', hi', z', s3, ?_, g⟩
  unfold F_Law_law_1485
  rw [xk_1]
  rw [sc_r hsc (show k + 1 < L by omega), Option.bind_some]
  rw [e1, Option.bind_some]
  dsimp only
  rw [sc_r hsc (show k + 1 < L by omega), Option.bind_some]
  rw [e3, Option.bind_some]
  dsimp only
  rw [if_pos rfl]
  unfold F_Law_law_1958
  rw [xk_9]
theorem k_1510 (hN : 2000 ≤ N) (hsc : SC h0 B b L xs) (hk : k + 9 ≤ L) (h : IAX eb D hi z s) : ∃ D' hi' z' s', F_Law_law_1510 cab N rec23 b (B + 0) (B + 85) (B + 129) (nI k) (mkM h0 B D hi z s) = rec23 (nI (k + 9)) (mkM h0 B D' hi' z' s') ∧ IAX eb D' hi' z' s' := by
  obtain ⟨ans, D', hi', z', s1, s3, e1', f1, e2', g⟩ := st_sure (h0 := h0) (B := B) (N := N) (eb := eb) (p0 := (xs (k + 1))) (p1 := (xs (k + 2))) hN D hi z s h
  have e1 : F_BP_sure N (mkM h0 B D hi z s) (B + 0) (xs (k + 1)) (xs (k + 2)) = some (ans, mkM h0 B D' hi' z' s1) := e1'
  have e2 : G_M_sure N s1 (xs (k + 1)) (xs (k + 2)) = some (ans, s3) := e2'
  have e3 : F_M_sure N (mkM h0 B D' hi' z' s1) (B + 85) (xs (k + 1)) (xs (k + 2)) = some (ans, mkM h0 B D' hi' z' s3) := by rw [sg_M_sure f1, e2]; rfl
  refine ⟨D', hi', z', s3, ?_, g⟩
  unfold F_Law_law_1510
  rw [xk_1, xk_2]
  rw [sc_r hsc (show k + 1 < L by omega), Option.bind_some]
  rw [sc_r hsc (show k + 2 < L by omega), Option.bind_some]
  rw [e1, Option.bind_some]
  dsimp only
  rw [sc_r hsc (show k + 1 < L by omega), Option.bind_some]
  rw [sc_r hsc (show k + 2 < L by omega), Option.bind_some]
  rw [e3, Option.bind_some]
  dsimp only
  rw [if_pos rfl]
  unfold F_Law_law_1958
  rw [xk_9]
theorem k_1547 (hN : 2000 ≤ N) (hsc : SC h0 B b L xs) (hk : k + 9 ≤ L) (h : IAX eb D hi z s) : ∃ D' hi' z' s', F_Law_law_1547 cab N rec23 b (B + 0) (B + 85) (B + 129) (nI k) (mkM h0 B D hi z s) = rec23 (nI (k + 9)) (mkM h0 B D' hi' z' s') ∧ IAX eb D' hi' z' s' := by
  by_cases c : xs (k + 3) = 0
  · obtain ⟨ans, D', hi', z', s1, s3, e1', f1, e2', g⟩ := st_parts (h0 := h0) (B := B) (N := N) (eb := eb) (p0 := (xs (k + 1))) (p1 := (xs (k + 2))) (wet := 0) (p3 := (xs (k + 4))) (by decide) hN D hi z s h
    have e1 : F_BP_parts N (mkM h0 B D hi z s) (B + 0) (xs (k + 1)) (xs (k + 2)) 0 (xs (k + 4)) = some (ans, mkM h0 B D' hi' z' s1) := e1'
    have e2 : G_M_parts N s1 (xs (k + 1)) (xs (k + 2)) 0 (xs (k + 4)) = some (ans, s3) := e2'
    have e3 : F_M_parts N (mkM h0 B D' hi' z' s1) (B + 85) (xs (k + 1)) (xs (k + 2)) 0 (xs (k + 4)) = some (ans, mkM h0 B D' hi' z' s3) := by rw [sg_M_parts f1, e2]; rfl
    refine ⟨D', hi', z', s3, ?_, g⟩
    unfold F_Law_law_1547
    rw [xk_1, xk_2, xk_3]
    rw [sc_r hsc (show k + 1 < L by omega), Option.bind_some]
    rw [sc_r hsc (show k + 2 < L by omega), Option.bind_some]
    rw [sc_r hsc (show k + 3 < L by omega), Option.bind_some]
    rw [if_pos c]
    unfold F_Law_law_1574
    rw [xk_4, xk_1, xk_2, xk_3]
    rw [sc_r hsc (show k + 4 < L by omega), Option.bind_some]
    rw [e1, Option.bind_some]
    dsimp only
    rw [sc_r hsc (show k + 1 < L by omega), Option.bind_some]
    rw [sc_r hsc (show k + 2 < L by omega), Option.bind_some]
    rw [sc_r hsc (show k + 3 < L by omega), Option.bind_some]
    rw [if_pos c]
    unfold F_Law_law_1610
    rw [xk_4]
    rw [sc_r hsc (show k + 4 < L by omega), Option.bind_some]
    rw [e3, Option.bind_some]
    dsimp only
    rw [if_pos rfl]
    unfold F_Law_law_1958
    rw [xk_9]
  · obtain ⟨ans, D', hi', z', s1, s3, e1', f1, e2', g⟩ := st_parts (h0 := h0) (B := B) (N := N) (eb := eb) (p0 := (xs (k + 1))) (p1 := (xs (k + 2))) (wet := 1) (p3 := (xs (k + 4))) (by decide) hN D hi z s h
    have e1 : F_BP_parts N (mkM h0 B D hi z s) (B + 0) (xs (k + 1)) (xs (k + 2)) 1 (xs (k + 4)) = some (ans, mkM h0 B D' hi' z' s1) := e1'
    have e2 : G_M_parts N s1 (xs (k + 1)) (xs (k + 2)) 1 (xs (k + 4)) = some (ans, s3) := e2'
    have e3 : F_M_parts N (mkM h0 B D' hi' z' s1) (B + 85) (xs (k + 1)) (xs (k + 2)) 1 (xs (k + 4)) = some (ans, mkM h0 B D' hi' z' s3) := by rw [sg_M_parts f1, e2]; rfl
    refine ⟨D', hi', z', s3, ?_, g⟩
    unfold F_Law_law_1547
    rw [xk_1, xk_2, xk_3]
    rw [sc_r hsc (show k + 1 < L by omega), Option.bind_some]
    rw [sc_r hsc (show k + 2 < L by omega), Option.bind_some]
    rw [sc_r hsc (show k + 3 < L by omega), Option.bind_some]
    rw [if_neg c]
    unfold F_Law_law_1574
    rw [xk_4, xk_1, xk_2, xk_3]
    rw [sc_r hsc (show k + 4 < L by omega), Option.bind_some]
    rw [e1, Option.bind_some]
    dsimp only
    rw [sc_r hsc (show k + 1 < L by omega), Option.bind_some]
    rw [sc_r hsc (show k + 2 < L by omega), Option.bind_some]
    rw [sc_r hsc (show k + 3 < L by omega), Option.bind_some]
    rw [if_neg c]
    unfold F_Law_law_1610
    rw [xk_4]
    rw [sc_r hsc (show k + 4 < L by omega), Option.bind_some]
    rw [e3, Option.bind_some]
    dsimp only
    rw [if_pos rfl]
    unfold F_Law_law_1958
    rw [xk_9]
theorem k_1624 (hN : 2000 ≤ N) (hsc : SC h0 B b L xs) (hk : k + 9 ≤ L) (h : IAX eb D hi z s) : ∃ D' hi' z' s', F_Law_law_1624 cab N rec23 b (B + 0) (B + 85) (B + 129) (nI k) (mkM h0 B D hi z s) = rec23 (nI (k + 9)) (mkM h0 B D' hi' z' s') ∧ IAX eb D' hi' z' s' := by
  by_cases c : xs (k + 2) = 0
  · obtain ⟨ans, D', hi', z', s1, s3, e1', f1, e2', g⟩ := st_next (h0 := h0) (B := B) (N := N) (eb := eb) (p0 := (xs (k + 1))) (wet := 0) (p2 := (xs (k + 3))) (p3 := (xs (k + 4))) (by decide) hN D hi z s h
    have e1 : F_BP_next N (mkM h0 B D hi z s) (B + 0) (xs (k + 1)) 0 (xs (k + 3)) (xs (k + 4)) = some (ans, mkM h0 B D' hi' z' s1) := e1'
    have e2 : G_M_next N s1 (xs (k + 1)) 0 (xs (k + 3)) (xs (k + 4)) = some (ans, s3) := e2'
    have e3 : F_M_next N (mkM h0 B D' hi' z' s1) (B + 85) (xs (k + 1)) 0 (xs (k + 3)) (xs (k + 4)) = some (ans, mkM h0 B D' hi' z' s3) := by rw [sg_M_next f1, e2]; rfl
    refine ⟨D', hi', z', s3, ?_, g⟩
    unfold F_Law_law_1624
    rw [xk_1, xk_2]
    rw [sc_r hsc (show k + 1 < L by omega), Option.bind_some]
    rw [sc_r hsc (show k + 2 < L by omega), Option.bind_some]
    rw [if_pos c]
    unfold F_Law_law_1645
    rw [xk_3, xk_4, xk_1, xk_2]
    rw [sc_r hsc (show k + 3 < L by omega), Option.bind_some]
    rw [sc_r hsc (show k + 4 < L by omega), Option.bind_some]
    rw [e1, Option.bind_some]
    dsimp only
    rw [sc_r hsc (show k + 1 < L by omega), Option.bind_some]
    rw [sc_r hsc (show k + 2 < L by omega), Option.bind_some]
    rw [if_pos c]
    unfold F_Law_law_1681
    rw [xk_3, xk_4]
    rw [sc_r hsc (show k + 3 < L by omega), Option.bind_some]
    rw [sc_r hsc (show k + 4 < L by omega), Option.bind_some]
    rw [e3, Option.bind_some]
    dsimp only
    rw [if_pos rfl]
    unfold F_Law_law_1958
    rw [xk_9]
  · obtain ⟨ans, D', hi', z', s1, s3, e1', f1, e2', g⟩ := st_next (h0 := h0) (B := B) (N := N) (eb := eb) (p0 := (xs (k + 1))) (wet := 1) (p2 := (xs (k + 3))) (p3 := (xs (k + 4))) (by decide) hN D hi z s h
    have e1 : F_BP_next N (mkM h0 B D hi z s) (B + 0) (xs (k + 1)) 1 (xs (k + 3)) (xs (k + 4)) = some (ans, mkM h0 B D' hi' z' s1) := e1'
    have e2 : G_M_next N s1 (xs (k + 1)) 1 (xs (k + 3)) (xs (k + 4)) = some (ans, s3) := e2'
    have e3 : F_M_next N (mkM h0 B D' hi' z' s1) (B + 85) (xs (k + 1)) 1 (xs (k + 3)) (xs (k + 4)) = some (ans, mkM h0 B D' hi' z' s3) := by rw [sg_M_next f1, e2]; rfl
    refine ⟨D', hi', z', s3, ?_, g⟩
    unfold F_Law_law_1624
    rw [xk_1, xk_2]
    rw [sc_r hsc (show k + 1 < L by omega), Option.bind_some]
    rw [sc_r hsc (show k + 2 < L by omega), Option.bind_some]
    rw [if_neg c]
    unfold F_Law_law_1645
    rw [xk_3, xk_4, xk_1, xk_2]
    rw [sc_r hsc (show k + 3 < L by omega), Option.bind_some]
    rw [sc_r hsc (show k + 4 < L by omega), Option.bind_some]
    rw [e1, Option.bind_some]
    dsimp only
    rw [sc_r hsc (show k + 1 < L by omega), Option.bind_some]
    rw [sc_r hsc (show k + 2 < L by omega), Option.bind_some]
    rw [if_neg c]
    unfold F_Law_law_1681
    rw [xk_3, xk_4]
    rw [sc_r hsc (show k + 3 < L by omega), Option.bind_some]
    rw [sc_r hsc (show k + 4 < L by omega), Option.bind_some]
    rw [e3, Option.bind_some]
    dsimp only
    rw [if_pos rfl]
    unfold F_Law_law_1958
    rw [xk_9]
theorem k_1701 (hN : 2000 ≤ N) (hsc : SC h0 B b L xs) (hk : k + 9 ≤ L) (h : IAX eb D hi z s) : ∃ D' hi' z' s', F_Law_law_1701 cab N rec23 b (B + 0) (B + 85) (B + 129) (nI k) (mkM h0 B D hi z s) = rec23 (nI (k + 9)) (mkM h0 B D' hi' z' s') ∧ IAX eb D' hi' z' s' := by
  obtain ⟨ans, D', hi', z', s1, s3, e1', f1, e2', g⟩ := st_walk (h0 := h0) (B := B) (N := N) (eb := eb) (p0 := (xs (k + 1))) (p1 := (xs (k + 2))) (p2 := (xs (k + 3))) hN D hi z s h
  have e1 : F_BP_walk N (mkM h0 B D hi z s) (B + 0) (xs (k + 1)) (xs (k + 2)) (xs (k + 3)) = some (ans, mkM h0 B D' hi' z' s1) := e1'
  have e2 : G_M_walk N s1 (xs (k + 1)) (xs (k + 2)) (xs (k + 3)) = some (ans, s3) := e2'
  have e3 : F_M_walk N (mkM h0 B D' hi' z' s1) (B + 85) (xs (k + 1)) (xs (k + 2)) (xs (k + 3)) = some (ans, mkM h0 B D' hi' z' s3) := by rw [sg_M_walk f1, e2]; rfl
  refine ⟨D', hi', z', s3, ?_, g⟩
  unfold F_Law_law_1701
  rw [xk_1, xk_2, xk_3]
  rw [sc_r hsc (show k + 1 < L by omega), Option.bind_some]
  rw [sc_r hsc (show k + 2 < L by omega), Option.bind_some]
  rw [sc_r hsc (show k + 3 < L by omega), Option.bind_some]
  rw [e1, Option.bind_some]
  dsimp only
  rw [sc_r hsc (show k + 1 < L by omega), Option.bind_some]
  rw [sc_r hsc (show k + 2 < L by omega), Option.bind_some]
  rw [sc_r hsc (show k + 3 < L by omega), Option.bind_some]
  rw [e3, Option.bind_some]
  dsimp only
  rw [if_pos rfl]
  unfold F_Law_law_1958
  rw [xk_9]
theorem k_1750 (hN : 2000 ≤ N) (hsc : SC h0 B b L xs) (hk : k + 9 ≤ L) (h : IAX eb D hi z s) : ∃ D' hi' z' s', F_Law_law_1750 cab N rec23 b (B + 0) (B + 85) (B + 129) (nI k) (mkM h0 B D hi z s) = rec23 (nI (k + 9)) (mkM h0 B D' hi' z' s') ∧ IAX eb D' hi' z' s' := by
  obtain ⟨ans, D', hi', z', s1, s3, e1', f1, e2', g⟩ := st_distance (h0 := h0) (B := B) (N := N) (eb := eb) (p0 := (xs (k + 1))) (p1 := (xs (k + 2))) (p2 := (xs (k + 3))) (p3 := (xs (k + 4))) (p4 := (xs (k + 5))) hN D hi z s h
  have e1 : F_BP_distance N (mkM h0 B D hi z s) (B + 0) (xs (k + 1)) (xs (k + 2)) (xs (k + 3)) (xs (k + 4)) (xs (k + 5)) = some (ans, mkM h0 B D' hi' z' s1) := e1'
  have e2 : G_M_distance N s1 (xs (k + 1)) (xs (k + 2)) (xs (k + 3)) (xs (k + 4)) (xs (k + 5)) = some (ans, s3) := e2'
  have e3 : F_M_distance N (mkM h0 B D' hi' z' s1) (B + 85) (xs (k + 1)) (xs (k + 2)) (xs (k + 3)) (xs (k + 4)) (xs (k + 5)) = some (ans, mkM h0 B D' hi' z' s3) := by rw [sg_M_distance f1, e2]; rfl
  refine ⟨D', hi', z', s3, ?_, g⟩
  unfold F_Law_law_1750
  rw [xk_1, xk_2, xk_3, xk_4, xk_5]
  rw [sc_r hsc (show k + 1 < L by omega), Option.bind_some]
  rw [sc_r hsc (show k + 2 < L by omega), Option.bind_some]
  rw [sc_r hsc (show k + 3 < L by omega), Option.bind_some]
  rw [sc_r hsc (show k + 4 < L by omega), Option.bind_some]
  rw [sc_r hsc (show k + 5 < L by omega), Option.bind_some]
  rw [e1, Option.bind_some]
  dsimp only
  rw [sc_r hsc (show k + 1 < L by omega), Option.bind_some]
  rw [sc_r hsc (show k + 2 < L by omega), Option.bind_some]
  rw [sc_r hsc (show k + 3 < L by omega), Option.bind_some]
  rw [sc_r hsc (show k + 4 < L by omega), Option.bind_some]
  rw [sc_r hsc (show k + 5 < L by omega), Option.bind_some]
  rw [e3, Option.bind_some]
  dsimp only
  rw [if_pos rfl]
  unfold F_Law_law_1958
  rw [xk_9]
theorem k_1823 (hN : 2000 ≤ N) (hsc : SC h0 B b L xs) (hk : k + 9 ≤ L) (h : IAX eb D hi z s) : ∃ D' hi' z' s', F_Law_law_1823 cab N rec23 b (B + 0) (B + 85) (B + 129) (nI k) (mkM h0 B D hi z s) = rec23 (nI (k + 9)) (mkM h0 B D' hi' z' s') ∧ IAX eb D' hi' z' s' := by
  obtain ⟨ans, D', hi', z', s1, s3, e1', f1, e2', g⟩ := st_want (h0 := h0) (B := B) (N := N) (eb := eb) (p0 := (xs (k + 1))) (p1 := (xs (k + 2))) (p2 := (xs (k + 3))) hN D hi z s h
  have e1 : F_BP_want N (mkM h0 B D hi z s) (B + 0) (xs (k + 1)) (xs (k + 2)) (xs (k + 3)) = some (ans, mkM h0 B D' hi' z' s1) := e1'
  have e2 : G_M_want N s1 (xs (k + 1)) (xs (k + 2)) (xs (k + 3)) = some (ans, s3) := e2'
  have e3 : F_M_want N (mkM h0 B D' hi' z' s1) (B + 85) (xs (k + 1)) (xs (k + 2)) (xs (k + 3)) = some (ans, mkM h0 B D' hi' z' s3) := by rw [sg_M_want f1, e2]; rfl
  refine ⟨D', hi', z', s3, ?_, g⟩
  unfold F_Law_law_1823
  rw [xk_1, xk_2, xk_3]
  rw [sc_r hsc (show k + 1 < L by omega), Option.bind_some]
  rw [sc_r hsc (show k + 2 < L by omega), Option.bind_some]
  rw [sc_r hsc (show k + 3 < L by omega), Option.bind_some]
  rw [e1, Option.bind_some]
  dsimp only
  rw [sc_r hsc (show k + 1 < L by omega), Option.bind_some]
  rw [sc_r hsc (show k + 2 < L by omega), Option.bind_some]
  rw [sc_r hsc (show k + 3 < L by omega), Option.bind_some]
  rw [e3, Option.bind_some]
  dsimp only
  rw [if_pos rfl]
  unfold F_Law_law_1958
  rw [xk_9]
theorem k_1872 (hN : 2000 ≤ N) (hsc : SC h0 B b L xs) (hk : k + 9 ≤ L) (h : IAX eb D hi z s) : ∃ D' hi' z' s', F_Law_law_1872 cab N rec23 b (B + 0) (B + 85) (B + 129) (nI k) (mkM h0 B D hi z s) = rec23 (nI (k + 9)) (mkM h0 B D' hi' z' s') ∧ IAX eb D' hi' z' s' := by
  obtain ⟨ans, D', hi', z', s1, s3, e1', f1, e2', g⟩ := st_moves (h0 := h0) (B := B) (N := N) (eb := eb) (p0 := (xs (k + 1))) (p1 := (xs (k + 2))) (p2 := (xs (k + 3))) (p3 := (xs (k + 4))) hN D hi z s h
  have e1 : F_BP_moves N (mkM h0 B D hi z s) (B + 0) (xs (k + 1)) (xs (k + 2)) (xs (k + 3)) (xs (k + 4)) = some (ans, mkM h0 B D' hi' z' s1) := e1'
  have e2 : G_M_moves N s1 (xs (k + 1)) (xs (k + 2)) (xs (k + 3)) (xs (k + 4)) = some (ans, s3) := e2'
  have e3 : F_M_moves N (mkM h0 B D' hi' z' s1) (B + 85) (xs (k + 1)) (xs (k + 2)) (xs (k + 3)) (xs (k + 4)) = some (ans, mkM h0 B D' hi' z' s3) := by rw [sg_M_moves f1, e2]; rfl
  refine ⟨D', hi', z', s3, ?_, g⟩
  unfold F_Law_law_1872
  rw [xk_1, xk_2, xk_3, xk_4]
  rw [sc_r hsc (show k + 1 < L by omega), Option.bind_some]
  rw [sc_r hsc (show k + 2 < L by omega), Option.bind_some]
  rw [sc_r hsc (show k + 3 < L by omega), Option.bind_some]
  rw [sc_r hsc (show k + 4 < L by omega), Option.bind_some]
  rw [e1, Option.bind_some]
  dsimp only
  rw [sc_r hsc (show k + 1 < L by omega), Option.bind_some]
  rw [sc_r hsc (show k + 2 < L by omega), Option.bind_some]
  rw [sc_r hsc (show k + 3 < L by omega), Option.bind_some]
  rw [sc_r hsc (show k + 4 < L by omega), Option.bind_some]
  rw [e3, Option.bind_some]
  dsimp only
  rw [if_pos rfl]
  unfold F_Law_law_1958
  rw [xk_9]
theorem k_1933 (hN : 2000 ≤ N) (hsc : SC h0 B b L xs) (hk : k + 9 ≤ L) (h : IAX eb D hi z s) : ∃ D' hi' z' s', F_Law_law_1933 cab N rec23 b (B + 0) (B + 85) (B + 129) (nI k) (mkM h0 B D hi z s) = rec23 (nI (k + 9)) (mkM h0 B D' hi' z' s') ∧ IAX eb D' hi' z' s' := by
  obtain ⟨ans, D', hi', z', s1, s3, e1', f1, e2', g⟩ := st_count (h0 := h0) (B := B) (N := N) (eb := eb) (p0 := (xs (k + 1))) D hi z s h
  have e1 : F_BP_count N (mkM h0 B D hi z s) (B + 0) (xs (k + 1)) = some (ans, mkM h0 B D' hi' z' s1) := e1'
  have e2 : G_M_count N s1 (xs (k + 1)) = some (ans, s3) := e2'
  have e3 : F_M_count N (mkM h0 B D' hi' z' s1) (B + 85) (xs (k + 1)) = some (ans, mkM h0 B D' hi' z' s3) := by rw [sg_M_count f1, e2]; rfl
  refine ⟨D', hi', z', s3, ?_, g⟩
  unfold F_Law_law_1933
  rw [xk_1]
  rw [sc_r hsc (show k + 1 < L by omega), Option.bind_some]
  rw [e1, Option.bind_some]
  dsimp only
  rw [sc_r hsc (show k + 1 < L by omega), Option.bind_some]
  rw [e3, Option.bind_some]
  dsimp only
  rw [if_pos rfl]
  unfold F_Law_law_1958
  rw [xk_9]
end CAT
