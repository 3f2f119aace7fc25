/-! ===== the cases of the law ===== -/
section CAS
variable {h0 : Nat → pm_C} {B : Nat} {D : Nat → pd} {hi z : Nat} {s : mst} {N b L k eb : Nat} {xs : Nat → Int32} {cab : pm_S → Nat → Int32 → Int32 → Int32 → Nat → Option (Int32 × pm_S)} {rec23 : Int32 → pm_S → Option (Int32 × pm_S)}
def SC (h0 : Nat → pm_C) (B b L : Nat) (xs : Nat → Int32) : Prop := b < B ∧ L ≤ 4608 ∧ h0 b = .inl (6, L, .inl xs)
theorem sc_h (h : SC h0 B b L xs) : ps_h (mkM h0 B D hi z s) b = .inl (6, L, .inl xs) := by
  show (if b < B then h0 b else _) = _
  rw [if_pos h.1]
  exact h.2.2
theorem sc_r {j : Nat} (h : SC h0 B b L xs) (hj : j < L) : aI [0, 6] (mkM h0 B D hi z s) b (nI j) = some (xs j) := by
  have hL := h.2.1
  unfold aI
  rw [sc_h h]
  show (if ([0, 6].contains 6 && (pm_my (mkM h0 B D hi z s) b || decide (6 = 6)) && pm_in (nI j) L) = true then some (xs (nI j).toNatClampNeg) else none) = _
  rw [pmin hj (by omega), nI_clamp (by omega), show decide (6 = 6) = true from rfl, Bool.or_true]
  rfl
theorem sc_n (h : SC h0 B b L xs) : aNS (mkM h0 B D hi z s) b = some (nI L) := by
  unfold aNS
  rw [sc_h h]
  rfl
theorem lgc {a : Int64} : lg_cmp a a = 0 := by
  unfold lg_cmp
  simp
theorem xk_1 : nI k + 1 = nI (k + 1) := by rw [show (1 : Int32) = nI 1 from rfl, nI_add]
theorem xk_2 : nI k + 2 = nI (k + 2) := by rw [show (2 : Int32) = nI 2 from rfl, nI_add]
theorem xk_3 : nI k + 3 = nI (k + 3) := by rw [show (3 : Int32) = nI 3 from rfl, nI_add]
theorem xk_4 : nI k + 4 = nI (k + 4) := by rw [show (4 : Int32) = nI 4 from rfl, nI_add]
theorem xk_5 : nI k + 5 = nI (k + 5) := by rw [show (5 : Int32) = nI 5 from rfl, nI_add]
theorem xk_6 : nI k + 6 = nI (k + 6) := by rw [show (6 : Int32) = nI 6 from rfl, nI_add]
theorem xk_7 : nI k + 7 = nI (k + 7) := by rw [show (7 : Int32) = nI 7 from rfl, nI_add]
theorem xk_8 : nI k + 8 = nI (k + 8) := by rw [show (8 : Int32) = nI 8 from rfl, nI_add]
theorem xk_9 : nI k + 9 = nI (k + 9) := by rw [show (9 : Int32) = nI 9 from rfl, nI_add]
theorem k_176 (hN : 2000 ≤ N) (hsc : SC h0 B b L xs) (hk : k + 9 ≤ L) (h : IAX eb D hi z s) : ∃ D' hi' z' s', F_Law_law_176 cab N rec23 b (B + 0) (B + 85) (B + 129) (nI k) (mkM h0 B D hi z s) = rec23 (nI (k + 9)) (mkM h0 B D' hi' z' s') ∧ IAX eb D' hi' z' s' := by
  obtain ⟨ans, D', hi', z', s1, s3, e1', f1, e2', g⟩ := st_feed (h0 := h0) (B := B) (N := N) (eb := eb) (p0 := (xs (k + 1))) (p1 := (xs (k + 2))) (p2 := (xs (k + 3))) (p3 := (xs (k + 4))) (p4 := (xs (k + 5))) hN D hi z s h
  have e1 : F_BP_feed N (mkM h0 B D hi z s) (B + 0) (xs (k + 1)) (xs (k + 2)) (xs (k + 3)) (xs (k + 4)) (xs (k + 5)) = some (ans, mkM h0 B D' hi' z' s1) := e1'
  have e2 : G_M_feed N s1 (xs (k + 1)) (xs (k + 2)) (xs (k + 3)) (xs (k + 4)) (xs (k + 5)) = some (ans, s3) := e2'
  have e3 : F_M_feed N (mkM h0 B D' hi' z' s1) (B + 85) (xs (k + 1)) (xs (k + 2)) (xs (k + 3)) (xs (k + 4)) (xs (k + 5)) = some (ans, mkM h0 B D' hi' z' s3) := by rw [sg_M_feed f1, e2]; rfl
  refine ⟨D', hi', z', s3, ?_, g⟩
  unfold F_Law_law_176
  rw [xk_1, xk_2, xk_3, xk_4, xk_5]
  rw [sc_r hsc (show k + 1 < L by omega), Option.bind_some]
  rw [sc_r hsc (show k + 2 < L by omega), Option.bind_some]
  rw [sc_r hsc (show k + 3 < L by omega), Option.bind_some]
  rw [sc_r hsc (show k + 4 < L by omega), Option.bind_some]
  rw [sc_r hsc (show k + 5 < L by omega), Option.bind_some]
  rw [e1, Option.bind_some]
  dsimp only
  rw [sc_r hsc (show k + 1 < L by omega), Option.bind_some]
  rw [sc_r hsc (show k + 2 < L by omega), Option.bind_some]
  rw [sc_r hsc (show k + 3 < L by omega), Option.bind_some]
  rw [sc_r hsc (show k + 4 < L by omega), Option.bind_some]
  rw [sc_r hsc (show k + 5 < L by omega), Option.bind_some]
  rw [e3, Option.bind_some]
  dsimp only
  rw [if_pos rfl]
  unfold F_Law_law_1958
  rw [xk_9]
theorem k_249 (hN : 2000 ≤ N) (hsc : SC h0 B b L xs) (hk : k + 9 ≤ L) (h : IAX eb D hi z s) : ∃ D' hi' z' s', F_Law_law_249 cab N rec23 b (B + 0) (B + 85) (B + 129) (nI k) (mkM h0 B D hi z s) = rec23 (nI (k + 9)) (mkM h0 B D' hi' z' s') ∧ IAX eb D' hi' z' s' := by
  obtain ⟨ans, D', hi', z', s1, s3, e1', f1, e2', g⟩ := st_end (h0 := h0) (B := B) (N := N) (eb := eb) (p := (xs (k + 1))) D hi z s h
  have e1 : F_BP_end N (mkM h0 B D hi z s) (B + 0) (xs (k + 1)) = some (ans, mkM h0 B D' hi' z' s1) := e1'
  have e2 : G_M_end N s1 (xs (k + 1)) = some (ans, s3) := e2'
  have e3 : F_M_end N (mkM h0 B D' hi' z' s1) (B + 85) (xs (k + 1)) = some (ans, mkM h0 B D' hi' z' s3) := by rw [sg_M_end f1, e2]; rfl
  refine ⟨D', hi', z', s3, ?_, g⟩
  unfold F_Law_law_249
  rw [xk_1]
  rw [sc_r hsc (show k + 1 < L by omega), Option.bind_some]
  rw [e1, Option.bind_some]
  dsimp only
  rw [sc_r hsc (show k + 1 < L by omega), Option.bind_some]
  rw [e3, Option.bind_some]
  dsimp only
  rw [if_pos rfl]
  unfold F_Law_law_1958
  rw [xk_9]
theorem k_274 (hN : 2000 ≤ N) (hsc : SC h0 B b L xs) (hk : k + 9 ≤ L) (h : IAX eb D hi z s) : ∃ D' hi' z' s', F_Law_law_274 cab N rec23 b (B + 0) (B + 85) (B + 129) (nI k) (mkM h0 B D hi z s) = rec23 (nI (k + 9)) (mkM h0 B D' hi' z' s') ∧ IAX eb D' hi' z' s' := by
  obtain ⟨ans, D', hi', z', s1, s3, e1', f1, e2', g⟩ := st_fault (h0 := h0) (B := B) (N := N) (eb := eb)  (by omega) D hi z s h
  have e1 : F_BP_fault N (mkM h0 B D hi z s) (B + 0)  = some (ans, mkM h0 B D' hi' z' s1) := e1'
  have e2 : G_M_fault N s1  = some (ans, s3) := e2'
  have e3 : F_M_fault N (mkM h0 B D' hi' z' s1) (B + 85)  = some (ans, mkM h0 B D' hi' z' s3) := by rw [sg_M_fault f1, e2]; rfl
  refine ⟨D', hi', z', s3, ?_, g⟩
  unfold F_Law_law_274
  rw [e1, Option.bind_some]
  dsimp only
  rw [e3, Option.bind_some]
  dsimp only
  rw [if_pos rfl]
  unfold F_Law_law_1958
  rw [xk_9]
theorem k_287 (hN : 2000 ≤ N) (hsc : SC h0 B b L xs) (hk : k + 9 ≤ L) (h : IAX eb D hi z s) : ∃ D' hi' z' s', F_Law_law_287 cab N rec23 b (B + 0) (B + 85) (B + 129) (nI k) (mkM h0 B D hi z s) = rec23 (nI (k + 9)) (mkM h0 B D' hi' z' s') ∧ IAX eb D' hi' z' s' := by
  obtain ⟨ans, D', hi', z', s1, s3, e1', f1, e2', g⟩ := st_plan (h0 := h0) (B := B) (N := N) (eb := eb)  (by omega) D hi z s h
  have e1 : F_BP_plan N (mkM h0 B D hi z s) (B + 0)  = some (ans, mkM h0 B D' hi' z' s1) := e1'
  have e2 : G_M_plan N s1  = some (ans, s3) := e2'
  have e3 : F_M_plan N (mkM h0 B D' hi' z' s1) (B + 85)  = some (ans, mkM h0 B D' hi' z' s3) := by rw [sg_M_plan f1, e2]; rfl
  refine ⟨D', hi', z', s3, ?_, g⟩
  unfold F_Law_law_287
  rw [e1, Option.bind_some]
  dsimp only
  rw [e3, Option.bind_some]
  dsimp only
  rw [if_pos rfl]
  unfold F_Law_law_1958
  rw [xk_9]
theorem k_380 (hN : 2000 ≤ N) (hsc : SC h0 B b L xs) (hk : k + 9 ≤ L) (h : IAX eb D hi z s) : ∃ D' hi' z' s', F_Law_law_380 cab N rec23 b (B + 0) (B + 85) (B + 129) (nI k) (mkM h0 B D hi z s) = rec23 (nI (k + 9)) (mkM h0 B D' hi' z' s') ∧ IAX eb D' hi' z' s' := by
  obtain ⟨ans, D', hi', z', s1, s3, e1', f1, e2', g⟩ := st_joint (h0 := h0) (B := B) (N := N) (eb := eb) (p0 := (xs (k + 1))) (p1 := (xs (k + 2))) (p2 := (xs (k + 3))) hN D hi z s h
  have e1 : F_BP_joint N (mkM h0 B D hi z s) (B + 0) (xs (k + 1)) (xs (k + 2)) (xs (k + 3)) = some (ans, mkM h0 B D' hi' z' s1) := e1'
  have e2 : G_M_joint N s1 (xs (k + 1)) (xs (k + 2)) (xs (k + 3)) = some (ans, s3) := e2'
  have e3 : F_M_joint N (mkM h0 B D' hi' z' s1) (B + 85) (xs (k + 1)) (xs (k + 2)) (xs (k + 3)) = some (ans, mkM h0 B D' hi' z' s3) := by rw [sg_M_joint f1, e2]; rfl
  refine ⟨D', hi', z', s3, ?_, g⟩
  unfold F_Law_law_380
  rw [xk_1, xk_2, xk_3]
  rw [sc_r hsc (show k + 1 < L by omega), Option.bind_some]
  rw [sc_r hsc (show k + 2 < L by omega), Option.bind_some]
  rw [sc_r hsc (show k + 3 < L by omega), Option.bind_some]
  rw [e1, Option.bind_some]
  dsimp only
  rw [sc_r hsc (show k + 1 < L by omega), Option.bind_some]
  rw [sc_r hsc (show k + 2 < L by omega), Option.bind_some]
  rw [sc_r hsc (show k + 3 < L by omega), Option.bind_some]
  rw [e3, Option.bind_some]
  dsimp only
  rw [if_pos rfl]
  unfold F_Law_law_1958
  rw [xk_9]
theorem k_429 (hN : 2000 ≤ N) (hsc : SC h0 B b L xs) (hk : k + 9 ≤ L) (h : IAX eb D hi z s) : ∃ D' hi' z' s', F_Law_law_429 cab N rec23 b (B + 0) (B + 85) (B + 129) (nI k) (mkM h0 B D hi z s) = rec23 (nI (k + 9)) (mkM h0 B D' hi' z' s') ∧ IAX eb D' hi' z' s' := by
  obtain ⟨ans, D', hi', z', s1, s3, e1', f1, e2', g⟩ := st_house (h0 := h0) (B := B) (N := N) (eb := eb) (p0 := (xs (k + 1))) (p1 := (xs (k + 2))) hN D hi z s h
  have e1 : F_BP_house N (mkM h0 B D hi z s) (B + 0) (xs (k + 1)) (xs (k + 2)) = some (ans, mkM h0 B D' hi' z' s1) := e1'
  have e2 : G_M_house N s1 (xs (k + 1)) (xs (k + 2)) = some (ans, s3) := e2'
  have e3 : F_M_house N (mkM h0 B D' hi' z' s1) (B + 85) (xs (k + 1)) (xs (k + 2)) = some (ans, mkM h0 B D' hi' z' s3) := by rw [sg_M_house f1, e2]; rfl
  refine ⟨D', hi', z', s3, ?_, g⟩
  unfold F_Law_law_429
  rw [xk_1, xk_2]
  rw [sc_r hsc (show k + 1 < L by omega), Option.bind_some]
  rw [sc_r hsc (show k + 2 < L by omega), Option.bind_some]
  rw [e1, Option.bind_some]
  dsimp only
  rw [sc_r hsc (show k + 1 < L by omega), Option.bind_some]
  rw [sc_r hsc (show k + 2 < L by omega), Option.bind_some]
  rw [e3, Option.bind_some]
  dsimp only
  rw [if_pos rfl]
  unfold F_Law_law_1958
  rw [xk_9]
theorem k_466 (hN : 2000 ≤ N) (hsc : SC h0 B b L xs) (hk : k + 9 ≤ L) (h : IAX eb D hi z s) : ∃ D' hi' z' s', F_Law_law_466 cab N rec23 b (B + 0) (B + 85) (B + 129) (nI k) (mkM h0 B D hi z s) = rec23 (nI (k + 9)) (mkM h0 B D' hi' z' s') ∧ IAX eb D' hi' z' s' := by
  obtain ⟨ans, D', hi', z', s1, s3, e1', f1, e2', g⟩ := st_slip (h0 := h0) (B := B) (N := N) (eb := eb) (p0 := (xs (k + 1))) (p1 := (xs (k + 2))) (p2 := (xs (k + 3))) (p3 := (xs (k + 4))) (p4 := (xs (k + 5))) (p5 := (xs (k + 6))) D hi z s h
  have e1 : F_BP_slip N (mkM h0 B D hi z s) (B + 0) (xs (k + 1)) (xs (k + 2)) (xs (k + 3)) (xs (k + 4)) (xs (k + 5)) (xs (k + 6)) = some (ans, mkM h0 B D' hi' z' s1) := e1'
  have e2 : G_M_slip N s1 (xs (k + 1)) (xs (k + 2)) (xs (k + 3)) (xs (k + 4)) (xs (k + 5)) (xs (k + 6)) = some (ans, s3) := e2'
  have e3 : F_M_slip N (mkM h0 B D' hi' z' s1) (B + 85) (xs (k + 1)) (xs (k + 2)) (xs (k + 3)) (xs (k + 4)) (xs (k + 5)) (xs (k + 6)) = some (ans, mkM h0 B D' hi' z' s3) := by rw [sg_M_slip f1, e2]; rfl
  refine ⟨D', hi', z', s3, ?_, g⟩
  unfold F_Law_law_466
  rw [xk_1, xk_2, xk_3, xk_4, xk_5, xk_6]
  rw [sc_r hsc (show k + 1 < L by omega), Option.bind_some]
  rw [sc_r hsc (show k + 2 < L by omega), Option.bind_some]
  rw [sc_r hsc (show k + 3 < L by omega), Option.bind_some]
  rw [sc_r hsc (show k + 4 < L by omega), Option.bind_some]
  rw [sc_r hsc (show k + 5 < L by omega), Option.bind_some]
  rw [sc_r hsc (show k + 6 < L by omega), Option.bind_some]
  rw [e1, Option.bind_some]
  dsimp only
  rw [sc_r hsc (show k + 1 < L by omega), Option.bind_some]
  rw [sc_r hsc (show k + 2 < L by omega), Option.bind_some]
  rw [sc_r hsc (show k + 3 < L by omega), Option.bind_some]
  rw [sc_r hsc (show k + 4 < L by omega), Option.bind_some]
  rw [sc_r hsc (show k + 5 < L by omega), Option.bind_some]
  rw [sc_r hsc (show k + 6 < L by omega), Option.bind_some]
  rw [e3, Option.bind_some]
  dsimp only
  rw [if_pos rfl]
  unfold F_Law_law_1958
  rw [xk_9]
theorem k_553 (hN : 2000 ≤ N) (hsc : SC h0 B b L xs) (hk : k + 9 ≤ L) (h : IAX eb D hi z s) : ∃ D' hi' z' s', F_Law_law_553 cab N rec23 b (B + 0) (B + 85) (B + 129) (nI k) (mkM h0 B D hi z s) = rec23 (nI (k + 9)) (mkM h0 B D' hi' z' s') ∧ IAX eb D' hi' z' s' := by
  obtain ⟨ans, D', hi', z', s1, s3, e1', f1, e2', g⟩ := st_trouble (h0 := h0) (B := B) (N := N) (eb := eb) (p0 := (xs (k + 1))) (p1 := (xs (k + 2))) (p2 := (xs (k + 3))) (p3 := (xs (k + 4))) (p4 := (xs (k + 5))) (p5 := (xs (k + 6))) D hi z s h
  have e1 : F_BP_trouble N (mkM h0 B D hi z s) (B + 0) (xs (k + 1)) (xs (k + 2)) (xs (k + 3)) (xs (k + 4)) (xs (k + 5)) (xs (k + 6)) = some (ans, mkM h0 B D' hi' z' s1) := e1'
  have e2 : G_M_trouble N s1 (xs (k + 1)) (xs (k + 2)) (xs (k + 3)) (xs (k + 4)) (xs (k + 5)) (xs (k + 6)) = some (ans, s3) := e2'
  have e3 : F_M_trouble N (mkM h0 B D' hi' z' s1) (B + 85) (xs (k + 1)) (xs (k + 2)) (xs (k + 3)) (xs (k + 4)) (xs (k + 5)) (xs (k + 6)) = some (ans, mkM h0 B D' hi' z' s3) := by rw [sg_M_trouble f1, e2]; rfl
  refine ⟨D', hi', z', s3, ?_, g⟩
  unfold F_Law_law_553
  rw [xk_1, xk_2, xk_3, xk_4, xk_5, xk_6]
  rw [sc_r hsc (show k + 1 < L by omega), Option.bind_some]
  rw [sc_r hsc (show k + 2 < L by omega), Option.bind_some]
  rw [sc_r hsc (show k + 3 < L by omega), Option.bind_some]
  rw [sc_r hsc (show k + 4 < L by omega), Option.bind_some]
  rw [sc_r hsc (show k + 5 < L by omega), Option.bind_some]
  rw [sc_r hsc (show k + 6 < L by omega), Option.bind_some]
  rw [e1, Option.bind_some]
  dsimp only
  rw [sc_r hsc (show k + 1 < L by omega), Option.bind_some]
  rw [sc_r hsc (show k + 2 < L by omega), Option.bind_some]
  rw [sc_r hsc (show k + 3 < L by omega), Option.bind_some]
  rw [sc_r hsc (show k + 4 < L by omega), Option.bind_some]
  rw [sc_r hsc (show k + 5 < L by omega), Option.bind_some]
  rw [sc_r hsc (show k + 6 < L by omega), Option.bind_some]
  rw [e3, Option.bind_some]
  dsimp only
  rw [if_pos rfl]
  unfold F_Law_law_1958
  rw [xk_9]
theorem k_640 (hN : 2000 ≤ N) (hsc : SC h0 B b L xs) (hk : k + 9 ≤ L) (h : IAX eb D hi z s) : ∃ D' hi' z' s', F_Law_law_640 cab N rec23 b (B + 0) (B + 85) (B + 129) (nI k) (mkM h0 B D hi z s) = rec23 (nI (k + 9)) (mkM h0 B D' hi' z' s') ∧ IAX eb D' hi' z' s' := by
  obtain ⟨ans, D', hi', z', s1, s3, e1', f1, e2', g⟩ := st_troubles (h0 := h0) (B := B) (N := N) (eb := eb) (p0 := (xs (k + 1))) D hi z s h
  have e1 : F_BP_troubles N (mkM h0 B D hi z s) (B + 0) (xs (k + 1)) = some (ans, mkM h0 B D' hi' z' s1) := e1'
  have e2 : G_M_troubles N s1 (xs (k + 1)) = some (ans, s3) := e2'
  have e3 : F_M_troubles N (mkM h0 B D' hi' z' s1) (B + 85) (xs (k + 1)) = some (ans, mkM h0 B D' hi' z' s3) := by rw [sg_M_troubles f1, e2]; rfl
  refine ⟨D', hi', z', s3, ?_, g⟩
  unfold F_Law_law_640
  rw [xk_1]
  rw [sc_r hsc (show k + 1 < L by omega), Option.bind_some]
  rw [e1, Option.bind_some]
  dsimp only
  rw [sc_r hsc (show k + 1 < L by omega), Option.bind_some]
  rw [e3, Option.bind_some]
  dsimp only
  rw [if_pos rfl]
  unfold F_Law_law_1958
  rw [xk_9]
theorem k_665 (hN : 2000 ≤ N) (hsc : SC h0 B b L xs) (hk : k + 9 ≤ L) (h : IAX eb D hi z s) : ∃ D' hi' z' s', F_Law_law_665 cab N rec23 b (B + 0) (B + 85) (B + 129) (nI k) (mkM h0 B D hi z s) = rec23 (nI (k + 9)) (mkM h0 B D' hi' z' s') ∧ IAX eb D' hi' z' s' := by
  by_cases c : xs (k + 3) = 0
  · obtain ⟨ans, D', hi', z', s1, s3, e1', f1, e2', g⟩ := st_heard (h0 := h0) (B := B) (N := N) (eb := eb) (p0 := (xs (k + 1))) (p1 := (xs (k + 2))) (wet := 0) (p3 := (xs (k + 4))) (p4 := (xs (k + 5))) (p5 := (xs (k + 6))) (p6 := (xs (k + 7))) (p7 := (xs (k + 8))) (by decide) hN D hi z s h
    have e1 : F_BP_heard N (mkM h0 B D hi z s) (B + 0) (xs (k + 1)) (xs (k + 2)) 0 (xs (k + 4)) (xs (k + 5)) (xs (k + 6)) (xs (k + 7)) (xs (k + 8)) = some (ans, mkM h0 B D' hi' z' s1) := e1'
    have e2 : G_M_heard N s1 (xs (k + 1)) (xs (k + 2)) 0 (xs (k + 4)) (xs (k + 5)) (xs (k + 6)) (xs (k + 7)) (xs (k + 8)) = some (ans, s3) := e2'
    have e3 : F_M_heard N (mkM h0 B D' hi' z' s1) (B + 85) (xs (k + 1)) (xs (k + 2)) 0 (xs (k + 4)) (xs (k + 5)) (xs (k + 6)) (xs (k + 7)) (xs (k + 8)) = some (ans, mkM h0 B D' hi' z' s3) := by rw [sg_M_heard f1, e2]; rfl
    refine ⟨D', hi', z', s3, ?_, g⟩
    unfold F_Law_law_665
    rw [xk_1, xk_2, xk_3]
    rw [sc_r hsc (show k + 1 < L by omega), Option.bind_some]
    rw [sc_r hsc (show k + 2 < L by omega), Option.bind_some]
    rw [sc_r hsc (show k + 3 < L by omega), Option.bind_some]
    rw [if_pos c]
    unfold F_Law_law_692
    rw [xk_4, xk_5, xk_6, xk_7, xk_8, xk_1, xk_2, xk_3]
    rw [sc_r hsc (show k + 4 < L by omega), Option.bind_some]
    rw [sc_r hsc (show k + 5 < L by omega), Option.bind_some]
    rw [sc_r hsc (show k + 6 < L by omega), Option.bind_some]
    rw [sc_r hsc (show k + 7 < L by omega), Option.bind_some]
    rw [sc_r hsc (show k + 8 < L by omega), Option.bind_some]
    rw [e1, Option.bind_some]
    dsimp only
    rw [sc_r hsc (show k + 1 < L by omega), Option.bind_some]
    rw [sc_r hsc (show k + 2 < L by omega), Option.bind_some]
    rw [sc_r hsc (show k + 3 < L by omega), Option.bind_some]
    rw [if_pos c]
    unfold F_Law_law_755
    rw [xk_4, xk_5, xk_6, xk_7, xk_8]
    rw [sc_r hsc (show k + 4 < L by omega), Option.bind_some]
    rw [sc_r hsc (show k + 5 < L by omega), Option.bind_some]
    rw [sc_r hsc (show k + 6 < L by omega), Option.bind_some]
    rw [sc_r hsc (show k + 7 < L by omega), Option.bind_some]
    rw [sc_r hsc (show k + 8 < L by omega), Option.bind_some]
    rw [e3, Option.bind_some]
    dsimp only
    rw [if_pos rfl]
    unfold F_Law_law_1958
    rw [xk_9]
  · obtain ⟨ans, D', hi', z', s1, s3, e1', f1, e2', g⟩ := st_heard (h0 := h0) (B := B) (N := N) (eb := eb) (p0 := (xs (k + 1))) (p1 := (xs (k + 2))) (wet := 1) (p3 := (xs (k + 4))) (p4 := (xs (k + 5))) (p5 := (xs (k + 6))) (p6 := (xs (k + 7))) (p7 := (xs (k + 8))) (by decide) hN D hi z s h
    have e1 : F_BP_heard N (mkM h0 B D hi z s) (B + 0) (xs (k + 1)) (xs (k + 2)) 1 (xs (k + 4)) (xs (k + 5)) (xs (k + 6)) (xs (k + 7)) (xs (k + 8)) = some (ans, mkM h0 B D' hi' z' s1) := e1'
    have e2 : G_M_heard N s1 (xs (k + 1)) (xs (k + 2)) 1 (xs (k + 4)) (xs (k + 5)) (xs (k + 6)) (xs (k + 7)) (xs (k + 8)) = some (ans, s3) := e2'
    have e3 : F_M_heard N (mkM h0 B D' hi' z' s1) (B + 85) (xs (k + 1)) (xs (k + 2)) 1 (xs (k + 4)) (xs (k + 5)) (xs (k + 6)) (xs (k + 7)) (xs (k + 8)) = some (ans, mkM h0 B D' hi' z' s3) := by rw [sg_M_heard f1, e2]; rfl
    refine ⟨D', hi', z', s3, ?_, g⟩
    unfold F_Law_law_665
    rw [xk_1, xk_2, xk_3]
    rw [sc_r hsc (show k + 1 < L by omega), Option.bind_some]
    rw [sc_r hsc (show k + 2 < L by omega), Option.bind_some]
    rw [sc_r hsc (show k + 3 < L by omega), Option.bind_some]
    rw [if_neg c]
    unfold F_Law_law_692
    rw [xk_4, xk_5, xk_6, xk_7, xk_8, xk_1, xk_2, xk_3]
    rw [sc_r hsc (show k + 4 < L by omega), Option.bind_some]
    rw [sc_r hsc (show k + 5 < L by omega), Option.bind_some]
    rw [sc_r hsc (show k + 6 < L by omega), Option.bind_some]
    rw [sc_r hsc (show k + 7 < L by omega), Option.bind_some]
    rw [sc_r hsc (show k + 8 < L by omega), Option.bind_some]
    rw [e1, Option.bind_some]
    dsimp only
    rw [sc_r hsc (show k + 1 < L by omega), Option.bind_some]
    rw [sc_r hsc (show k + 2 < L by omega), Option.bind_some]
    rw [sc_r hsc (show k + 3 < L by omega), Option.bind_some]
    rw [if_neg c]
    unfold F_Law_law_755
    rw [xk_4, xk_5, xk_6, xk_7, xk_8]
    rw [sc_r hsc (show k + 4 < L by omega), Option.bind_some]
    rw [sc_r hsc (show k + 5 < L by omega), Option.bind_some]
    rw [sc_r hsc (show k + 6 < L by omega), Option.bind_some]
    rw [sc_r hsc (show k + 7 < L by omega), Option.bind_some]
    rw [sc_r hsc (show k + 8 < L by omega), Option.bind_some]
    rw [e3, Option.bind_some]
    dsimp only
    rw [if_pos rfl]
    unfold F_Law_law_1958
    rw [xk_9]
theorem k_796 (hN : 2000 ≤ N) (hsc : SC h0 B b L xs) (hk : k + 9 ≤ L) (h : IAX eb D hi z s) : ∃ D' hi' z' s', F_Law_law_796 cab N rec23 b (B + 0) (B + 85) (B + 129) (nI k) (mkM h0 B D hi z s) = rec23 (nI (k + 9)) (mkM h0 B D' hi' z' s') ∧ IAX eb D' hi' z' s' := by
  by_cases c : xs (k + 3) = 0
  · obtain ⟨ans, D', hi', z', s1, s3, e1', f1, e2', g⟩ := st_metres (h0 := h0) (B := B) (N := N) (eb := eb) (p0 := (xs (k + 1))) (p1 := (xs (k + 2))) (wet := 0) (p3 := (xs (k + 4))) (p4 := (xs (k + 5))) (p5 := (xs (k + 6))) (by decide) hN D hi z s h
    have e1 : F_BP_metres N (mkM h0 B D hi z s) (B + 0) (xs (k + 1)) (xs (k + 2)) 0 (xs (k + 4)) (xs (k + 5)) (xs (k + 6)) = some (ans, mkM h0 B D' hi' z' s1) := e1'
    have e2 : G_M_metres N s1 (xs (k + 1)) (xs (k + 2)) 0 (xs (k + 4)) (xs (k + 5)) (xs (k + 6)) = some (ans, s3) := e2'
    have e3 : F_M_metres N (mkM h0 B D' hi' z' s1) (B + 85) (xs (k + 1)) (xs (k + 2)) 0 (xs (k + 4)) (xs (k + 5)) (xs (k + 6)) = some (ans, mkM h0 B D' hi' z' s3) := by rw [sg_M_metres f1, e2]; rfl
    refine ⟨D', hi', z', s3, ?_, g⟩
    unfold F_Law_law_796
    rw [xk_1, xk_2, xk_3]
    rw [sc_r hsc (show k + 1 < L by omega), Option.bind_some]
    rw [sc_r hsc (show k + 2 < L by omega), Option.bind_some]
    rw [sc_r hsc (show k + 3 < L by omega), Option.bind_some]
    rw [if_pos c]
    unfold F_Law_law_823
    rw [xk_4, xk_5, xk_6, xk_1, xk_2, xk_3]
    rw [sc_r hsc (show k + 4 < L by omega), Option.bind_some]
    rw [sc_r hsc (show k + 5 < L by omega), Option.bind_some]
    rw [sc_r hsc (show k + 6 < L by omega), Option.bind_some]
    rw [e1, Option.bind_some]
    dsimp only
    rw [sc_r hsc (show k + 1 < L by omega), Option.bind_some]
    rw [sc_r hsc (show k + 2 < L by omega), Option.bind_some]
    rw [sc_r hsc (show k + 3 < L by omega), Option.bind_some]
    rw [if_pos c]
    unfold F_Law_law_872
    rw [xk_4, xk_5, xk_6]
    rw [sc_r hsc (show k + 4 < L by omega), Option.bind_some]
    rw [sc_r hsc (show k + 5 < L by omega), Option.bind_some]
    rw [sc_r hsc (show k + 6 < L by omega), Option.bind_some]
    rw [e3, Option.bind_some]
    dsimp only
    rw [if_pos rfl]
    unfold F_Law_law_1958
    rw [xk_9]
  · obtain ⟨ans, D', hi', z', s1, s3, e1', f1, e2', g⟩ := st_metres (h0 := h0) (B := B) (N := N) (eb := eb) (p0 := (xs (k + 1))) (p1 := (xs (k + 2))) (wet := 1) (p3 := (xs (k + 4))) (p4 := (xs (k + 5))) (p5 := (xs (k + 6))) (by decide) hN D hi z s h
    have e1 : F_BP_metres N (mkM h0 B D hi z s) (B + 0) (xs (k + 1)) (xs (k + 2)) 1 (xs (k + 4)) (xs (k + 5)) (xs (k + 6)) = some (ans, mkM h0 B D' hi' z' s1) := e1'
    have e2 : G_M_metres N s1 (xs (k + 1)) (xs (k + 2)) 1 (xs (k + 4)) (xs (k + 5)) (xs (k + 6)) = some (ans, s3) := e2'
    have e3 : F_M_metres N (mkM h0 B D' hi' z' s1) (B + 85) (xs (k + 1)) (xs (k + 2)) 1 (xs (k + 4)) (xs (k + 5)) (xs (k + 6)) = some (ans, mkM h0 B D' hi' z' s3) := by rw [sg_M_metres f1, e2]; rfl
    refine ⟨D', hi', z', s3, ?_, g⟩
    unfold F_Law_law_796
    rw [xk_1, xk_2, xk_3]
    rw [sc_r hsc (show k + 1 < L by omega), Option.bind_some]
    rw [sc_r hsc (show k + 2 < L by omega), Option.bind_some]
    rw [sc_r hsc (show k + 3 < L by omega), Option.bind_some]
    rw [if_neg c]
    unfold F_Law_law_823
    rw [xk_4, xk_5, xk_6, xk_1, xk_2, xk_3]
    rw [sc_r hsc (show k + 4 < L by omega), Option.bind_some]
    rw [sc_r hsc (show k + 5 < L by omega), Option.bind_some]
    rw [sc_r hsc (show k + 6 < L by omega), Option.bind_some]
    rw [e1, Option.bind_some]
    dsimp only
    rw [sc_r hsc (show k + 1 < L by omega), Option.bind_some]
    rw [sc_r hsc (show k + 2 < L by omega), Option.bind_some]
    rw [sc_r hsc (show k + 3 < L by omega), Option.bind_some]
    rw [if_neg c]
    unfold F_Law_law_872
    rw [xk_4, xk_5, xk_6]
    rw [sc_r hsc (show k + 4 < L by omega), Option.bind_some]
    rw [sc_r hsc (show k + 5 < L by omega), Option.bind_some]
    rw [sc_r hsc (show k + 6 < L by omega), Option.bind_some]
    rw [e3, Option.bind_some]
    dsimp only
    rw [if_pos rfl]
    unfold F_Law_law_1958
    rw [xk_9]
theorem k_899 (hN : 2000 ≤ N) (hsc : SC h0 B b L xs) (hk : k + 9 ≤ L) (h : IAX eb D hi z s) : ∃ D' hi' z' s', F_Law_law_899 cab N rec23 b (B + 0) (B + 85) (B + 129) (nI k) (mkM h0 B D hi z s) = rec23 (nI (k + 9)) (mkM h0 B D' hi' z' s') ∧ IAX eb D' hi' z' s' := by
  by_cases c : xs (k + 3) = 0
  · obtain ⟨ans, D', hi', z', s1, s3, e1', f1, e2', g⟩ := st_fed (h0 := h0) (B := B) (N := N) (eb := eb) (p0 := (xs (k + 1))) (p1 := (xs (k + 2))) (wet := 0) (p3 := (xs (k + 4))) (by decide) hN D hi z s h
    have e1 : F_BP_fed N (mkM h0 B D hi z s) (B + 0) (xs (k + 1)) (xs (k + 2)) 0 (xs (k + 4)) = some (ans, mkM h0 B D' hi' z' s1) := e1'
    have e2 : G_M_fed N s1 (xs (k + 1)) (xs (k + 2)) 0 (xs (k + 4)) = some (ans, s3) := e2'
    have e3 : F_M_fed N (mkM h0 B D' hi' z' s1) (B + 85) (xs (k + 1)) (xs (k + 2)) 0 (xs (k + 4)) = some (ans, mkM h0 B D' hi' z' s3) := by rw [sg_M_fed f1, e2]; rfl
    refine ⟨D', hi', z', s3, ?_, g⟩
    unfold F_Law_law_899
    rw [xk_1, xk_2, xk_3]
    rw [sc_r hsc (show k + 1 < L by omega), Option.bind_some]
    rw [sc_r hsc (show k + 2 < L by omega), Option.bind_some]
    rw [sc_r hsc (show k + 3 < L by omega), Option.bind_some]
    rw [if_pos c]
    unfold F_Law_law_926
    rw [xk_4, xk_1, xk_2, xk_3]
    rw [sc_r hsc (show k + 4 < L by omega), Option.bind_some]
    rw [e1, Option.bind_some]
    dsimp only
    rw [sc_r hsc (show k + 1 < L by omega), Option.bind_some]
    rw [sc_r hsc (show k + 2 < L by omega), Option.bind_some]
    rw [sc_r hsc (show k + 3 < L by omega), Option.bind_some]
    rw [if_pos c]
    unfold F_Law_law_962
    rw [xk_4]
    rw [sc_r hsc (show k + 4 < L by omega), Option.bind_some]
    rw [e3, Option.bind_some]
    dsimp only
    rw [lgc, if_pos rfl]
    unfold F_Law_law_1958
    rw [xk_9]
  · obtain ⟨ans, D', hi', z', s1, s3, e1', f1, e2', g⟩ := st_fed (h0 := h0) (B := B) (N := N) (eb := eb) (p0 := (xs (k + 1))) (p1 := (xs (k + 2))) (wet := 1) (p3 := (xs (k + 4))) (by decide) hN D hi z s h
    have e1 : F_BP_fed N (mkM h0 B D hi z s) (B + 0) (xs (k + 1)) (xs (k + 2)) 1 (xs (k + 4)) = some (ans, mkM h0 B D' hi' z' s1) := e1'
    have e2 : G_M_fed N s1 (xs (k + 1)) (xs (k + 2)) 1 (xs (k + 4)) = some (ans, s3) := e2'
    have e3 : F_M_fed N (mkM h0 B D' hi' z' s1) (B + 85) (xs (k + 1)) (xs (k + 2)) 1 (xs (k + 4)) = some (ans, mkM h0 B D' hi' z' s3) := by rw [sg_M_fed f1, e2]; rfl
    refine ⟨D', hi', z', s3, ?_, g⟩
    unfold F_Law_law_899
    rw [xk_1, xk_2, xk_3]
    rw [sc_r hsc (show k + 1 < L by omega), Option.bind_some]
    rw [sc_r hsc (show k + 2 < L by omega), Option.bind_some]
    rw [sc_r hsc (show k + 3 < L by omega), Option.bind_some]
    rw [if_neg c]
    unfold F_Law_law_926
    rw [xk_4, xk_1, xk_2, xk_3]
    rw [sc_r hsc (show k + 4 < L by omega), Option.bind_some]
    rw [e1, Option.bind_some]
    dsimp only
    rw [sc_r hsc (show k + 1 < L by omega), Option.bind_some]
    rw [sc_r hsc (show k + 2 < L by omega), Option.bind_some]
    rw [sc_r hsc (show k + 3 < L by omega), Option.bind_some]
    rw [if_neg c]
    unfold F_Law_law_962
    rw [xk_4]
    rw [sc_r hsc (show k + 4 < L by omega), Option.bind_some]
    rw [e3, Option.bind_some]
    dsimp only
    rw [lgc, if_pos rfl]
    unfold F_Law_law_1958
    rw [xk_9]
theorem k_977 (hN : 2000 ≤ N) (hsc : SC h0 B b L xs) (hk : k + 9 ≤ L) (h : IAX eb D hi z s) : ∃ D' hi' z' s', F_Law_law_977 cab N rec23 b (B + 0) (B + 85) (B + 129) (nI k) (mkM h0 B D hi z s) = rec23 (nI (k + 9)) (mkM h0 B D' hi' z' s') ∧ IAX eb D' hi' z' s' := by
  by_cases c : xs (k + 3) = 0
  · obtain ⟨ans, D', hi', z', s1, s3, e1', f1, e2', g⟩ := st_served (h0 := h0) (B := B) (N := N) (eb := eb) (p0 := (xs (k + 1))) (p1 := (xs (k + 2))) (wet := 0) (by decide) hN D hi z s h
    have e1 : F_BP_served N (mkM h0 B D hi z s) (B + 0) (xs (k + 1)) (xs (k + 2)) 0 = some (ans, mkM h0 B D' hi' z' s1) := e1'
    have e2 : G_M_served N s1 (xs (k + 1)) (xs (k + 2)) 0 = some (ans, s3) := e2'
    have e3 : F_M_served N (mkM h0 B D' hi' z' s1) (B + 85) (xs (k + 1)) (xs (k + 2)) 0 = some (ans, mkM h0 B D' hi' z' s3) := by rw [sg_M_served f1, e2]; rfl
    refine ⟨D', hi', z', s3, ?_, g⟩
    unfold F_Law_law_977
    rw [xk_1, xk_2, xk_3]
    rw [sc_r hsc (show k + 1 < L by omega), Option.bind_some]
    rw [sc_r hsc (show k + 2 < L by omega), Option.bind_some]
    rw [sc_r hsc (show k + 3 < L by omega), Option.bind_some]
    rw [if_pos c]
    unfold F_Law_law_1004
    rw [xk_1, xk_2, xk_3]
    rw [e1, Option.bind_some]
    dsimp only
    rw [sc_r hsc (show k + 1 < L by omega), Option.bind_some]
    rw [sc_r hsc (show k + 2 < L by omega), Option.bind_some]
    rw [sc_r hsc (show k + 3 < L by omega), Option.bind_some]
    rw [if_pos c]
    unfold F_Law_law_1034
    rw [e3, Option.bind_some]
    dsimp only
    rw [if_pos rfl]
    unfold F_Law_law_1958
    rw [xk_9]
  · obtain ⟨ans, D', hi', z', s1, s3, e1', f1, e2', g⟩ := st_served (h0 := h0) (B := B) (N := N) (eb := eb) (p0 := (xs (k + 1))) (p1 := (xs (k + 2))) (wet := 1) (by decide) hN D hi z s h
    have e1 : F_BP_served N (mkM h0 B D hi z s) (B + 0) (xs (k + 1)) (xs (k + 2)) 1 = some (ans, mkM h0 B D' hi' z' s1) := e1'
    have e2 : G_M_served N s1 (xs (k + 1)) (xs (k + 2)) 1 = some (ans, s3) := e2'
    have e3 : F_M_served N (mkM h0 B D' hi' z' s1) (B + 85) (xs (k + 1)) (xs (k + 2)) 1 = some (ans, mkM h0 B D' hi' z' s3) := by rw [sg_M_served f1, e2]; rfl
    refine ⟨D', hi', z', s3, ?_, g⟩
    unfold F_Law_law_977
    rw [xk_1, xk_2, xk_3]
    rw [sc_r hsc (show k + 1 < L by omega), Option.bind_some]
    rw [sc_r hsc (show k + 2 < L by omega), Option.bind_some]
    rw [sc_r hsc (show k + 3 < L by omega), Option.bind_some]
    rw [if_neg c]
    unfold F_Law_law_1004
    rw [xk_1, xk_2, xk_3]
    rw [e1, Option.bind_some]
    dsimp only
    rw [sc_r hsc (show k + 1 < L by omega), Option.bind_some]
    rw [sc_r hsc (show k + 2 < L by omega), Option.bind_some]
    rw [sc_r hsc (show k + 3 < L by omega), Option.bind_some]
    rw [if_neg c]
    unfold F_Law_law_1034
    rw [e3, Option.bind_some]
    dsimp only
    rw [if_pos rfl]
    unfold F_Law_law_1958
    rw [xk_9]
theorem k_1042 (hN : 2000 ≤ N) (hsc : SC h0 B b L xs) (hk : k + 9 ≤ L) (h : IAX eb D hi z s) : ∃ D' hi' z' s', F_Law_law_1042 cab N rec23 b (B + 0) (B + 85) (B + 129) (nI k) (mkM h0 B D hi z s) = rec23 (nI (k + 9)) (mkM h0 B D' hi' z' s') ∧ IAX eb D' hi' z' s' := by
  by_cases c : xs (k + 3) = 0
  · obtain ⟨ans, D', hi', z', s1, s3, e1', f1, e2', g⟩ := st_neighbours (h0 := h0) (B := B) (N := N) (eb := eb) (p0 := (xs (k + 1))) (p1 := (xs (k + 2))) (wet := 0) (p3 := (xs (k + 4))) (by decide) hN D hi z s h
    have e1 : F_BP_neighbours N (mkM h0 B D hi z s) (B + 0) (xs (k + 1)) (xs (k + 2)) 0 (xs (k + 4)) = some (ans, mkM h0 B D' hi' z' s1) := e1'
    have e2 : G_M_neighbours N s1 (xs (k + 1)) (xs (k + 2)) 0 (xs (k + 4)) = some (ans, s3) := e2'
    have e3 : F_M_neighbours N (mkM h0 B D' hi' z' s1) (B + 85) (xs (k + 1)) (xs (k + 2)) 0 (xs (k + 4)) = some (ans, mkM h0 B D' hi' z' s3) := by rw [sg_M_neighbours f1, e2]; rfl
    refine ⟨D', hi', z', s3, ?_, g⟩
    unfold F_Law_law_1042
    rw [xk_1, xk_2, xk_3]
    rw [sc_r hsc (show k + 1 < L by omega), Option.bind_some]
    rw [sc_r hsc (show k + 2 < L by omega), Option.bind_some]
    rw [sc_r hsc (show k + 3 < L by omega), Option.bind_some]
    rw [if_pos c]
    unfold F_Law_law_1069
    rw [xk_4, xk_1, xk_2, xk_3]
    rw [sc_r hsc (show k + 4 < L by omega), Option.bind_some]
    rw [e1, Option.bind_some]
    dsimp only
    rw [sc_r hsc (show k + 1 < L by omega), Option.bind_some]
    rw [sc_r hsc (show k + 2 < L by omega), Option.bind_some]
    rw [sc_r hsc (show k + 3 < L by omega), Option.bind_some]
    rw [if_pos c]
    unfold F_Law_law_1105
    rw [xk_4]
    rw [sc_r hsc (show k + 4 < L by omega), Option.bind_some]
    rw [e3, Option.bind_some]
    dsimp only
    rw [if_pos rfl]
    unfold F_Law_law_1958
    rw [xk_9]
  · obtain ⟨ans, D', hi', z', s1, s3, e1', f1, e2', g⟩ := st_neighbours (h0 := h0) (B := B) (N := N) (eb := eb) (p0 := (xs (k + 1))) (p1 := (xs (k + 2))) (wet := 1) (p3 := (xs (k + 4))) (by decide) hN D hi z s h
    have e1 : F_BP_neighbours N (mkM h0 B D hi z s) (B + 0) (xs (k + 1)) (xs (k + 2)) 1 (xs (k + 4)) = some (ans, mkM h0 B D' hi' z' s1) := e1'
    have e2 : G_M_neighbours N s1 (xs (k + 1)) (xs (k + 2)) 1 (xs (k + 4)) = some (ans, s3) := e2'
    have e3 : F_M_neighbours N (mkM h0 B D' hi' z' s1) (B + 85) (xs (k + 1)) (xs (k + 2)) 1 (xs (k + 4)) = some (ans, mkM h0 B D' hi' z' s3) := by rw [sg_M_neighbours f1, e2]; rfl
    refine ⟨D', hi', z', s3, ?_, g⟩
    unfold F_Law_law_1042
    rw [xk_1, xk_2, xk_3]
    rw [sc_r hsc (show k + 1 < L by omega), Option.bind_some]
    rw [sc_r hsc (show k + 2 < L by omega), Option.bind_some]
    rw [sc_r hsc (show k + 3 < L by omega), Option.bind_some]
    rw [if_neg c]
    unfold F_Law_law_1069
    rw [xk_4, xk_1, xk_2, xk_3]
    rw [sc_r hsc (show k + 4 < L by omega), Option.bind_some]
    rw [e1, Option.bind_some]
    dsimp only
    rw [sc_r hsc (show k + 1 < L by omega), Option.bind_some]
    rw [sc_r hsc (show k + 2 < L by omega), Option.bind_some]
    rw [sc_r hsc (show k + 3 < L by omega), Option.bind_some]
    rw [if_neg c]
    unfold F_Law_law_1105
    rw [xk_4]
    rw [sc_r hsc (show k + 4 < L by omega), Option.bind_some]
    rw [e3, Option.bind_some]
    dsimp only
    rw [if_pos rfl]
    unfold F_Law_law_1958
    rw [xk_9]
end CAS
