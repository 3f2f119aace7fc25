def pm_OQb (Ts Ns : List Cond) (own : String) (idx t : Nat) : Prop :=
  (t = 4 ∧ Cond.classLink own idx "BuriedPairs$Plan" ∈ Ts ∧ Cond.arrayOver (.object "BuriedPairs$Plan") ∈ Ns) ∨ (t = 5 ∧ Cond.classLink own idx (FieldType.array .int).toString ∈ Ts ∧ Cond.arrayOver (.array .int) ∈ Ns)
/-- the program's tables are right -/
def pm_OKb (G : pm_G) (cl : List vw_C) (Ts Ns : List Cond) (cn : Nat → String) : Prop :=
  (∀ w ∈ Ts, goodWord w = true) ∧ pm_OA Ts ∧ (∃ (T : u_T) (N : Nat), cl[4]? = some ("BuriedPairs$Plan", T, N)) ∧
  (∀ co idx ci k ty fin, pg_f G co idx = some (ci, k, ty, fin) → pm_OF cl Ts Ns (cn co) co idx ci k ty fin) ∧
  (∀ co idx mj q, pg_m G co idx = some (mj, q) → pm_OM cl Ts Ns cn (cn co) idx mj q) ∧
  (∀ co idx ci fs, pg_n G co idx = some (ci, fs) → pm_ON cl Ts (cn co) idx ci fs) ∧
  (∀ co idx t, pg_q G co idx = some t → pm_OQb Ts Ns (cn co) idx t) ∧
  (∀ co idx v, pg_k G co idx = some v → pm_OK1 (cn co) idx Ts v)
set_option maxRecDepth 100000 in
theorem fk_0_12 : pm_OF pt_cl pt_Ts tables_1 (pt_cn 0) 0 12 0 0 (.object "BuriedPairs$Wires") true := ⟨_, _, _, _, pt_c0, by decide, rfl, rfl, Or.inl ⟨pt_w_ok (i := 286) (by decide +kernel), rfl⟩⟩
set_option maxRecDepth 100000 in
theorem fk_0_21 : pm_OF pt_cl pt_Ts tables_1 (pt_cn 0) 0 21 0 1 (.object "BuriedPairs$Tone") true := ⟨_, _, _, _, pt_c0, by decide, rfl, rfl, Or.inl ⟨pt_w_ok (i := 288) (by decide +kernel), rfl⟩⟩
set_option maxRecDepth 100000 in
theorem fk_0_25 : pm_OF pt_cl pt_Ts tables_1 (pt_cn 0) 0 25 0 2 (.array .long) true := ⟨_, _, _, _, pt_c0, by decide, rfl, rfl, Or.inl ⟨pt_w_ok (i := 290) (by decide +kernel), rfl⟩⟩
set_option maxRecDepth 100000 in
theorem fk_0_29 : pm_OF pt_cl pt_Ts tables_1 (pt_cn 0) 0 29 0 3 (.array .int) true := ⟨_, _, _, _, pt_c0, by decide, rfl, rfl, Or.inl ⟨pt_w_ok (i := 291) (by decide +kernel), rfl⟩⟩
set_option maxRecDepth 100000 in
theorem fk_0_33 : pm_OF pt_cl pt_Ts tables_1 (pt_cn 0) 0 33 0 4 .int false := ⟨_, _, _, _, pt_c0, by decide, rfl, rfl, Or.inl ⟨pt_w_ok (i := 292) (by decide +kernel), rfl⟩⟩
set_option maxRecDepth 100000 in
theorem fk_0_37 : pm_OF pt_cl pt_Ts tables_1 (pt_cn 0) 0 37 0 5 .int false := ⟨_, _, _, _, pt_c0, by decide, rfl, rfl, Or.inl ⟨pt_w_ok (i := 294) (by decide +kernel), rfl⟩⟩
set_option maxRecDepth 100000 in
theorem fk_0_44 : pm_OF pt_cl pt_Ts tables_1 (pt_cn 0) 0 44 9 9 (.object "BuriedPairs$Plan") false := ⟨_, _, _, _, pt_c9, by decide, rfl, rfl, Or.inr ⟨by decide, "BuriedPairs", pt_n_ok (i := 231) (by decide +kernel)⟩⟩
set_option maxRecDepth 100000 in
theorem fk_0_85 : pm_OF pt_cl pt_Ts tables_1 (pt_cn 0) 0 85 4 8 (.object "BuriedPairs$Ledger") true := ⟨_, _, _, _, pt_c4, by decide, rfl, rfl, Or.inr ⟨by decide, "BuriedPairs", pt_n_ok (i := 182) (by decide +kernel)⟩⟩
set_option maxRecDepth 100000 in
theorem fk_0_101 : pm_OF pt_cl pt_Ts tables_1 (pt_cn 0) 0 101 4 11 (.object "BuriedPairs$Sheet") true := ⟨_, _, _, _, pt_c4, by decide, rfl, rfl, Or.inr ⟨by decide, "BuriedPairs", pt_n_ok (i := 190) (by decide +kernel)⟩⟩
set_option maxRecDepth 100000 in
theorem fk_0_105 : pm_OF pt_cl pt_Ts tables_1 (pt_cn 0) 0 105 5 4 .boolean false := ⟨_, _, _, _, pt_c5, by decide, rfl, rfl, Or.inr ⟨by decide, "BuriedPairs", pt_n_ok (i := 146) (by decide +kernel)⟩⟩
set_option maxRecDepth 100000 in
theorem fk_0_119 : pm_OF pt_cl pt_Ts tables_1 (pt_cn 0) 0 119 5 3 .int false := ⟨_, _, _, _, pt_c5, by decide, rfl, rfl, Or.inr ⟨by decide, "BuriedPairs", pt_n_ok (i := 143) (by decide +kernel)⟩⟩
set_option maxRecDepth 100000 in
theorem fk_0_134 : pm_OF pt_cl pt_Ts tables_1 (pt_cn 0) 0 134 4 9 (.object "BuriedPairs$Ledger") true := ⟨_, _, _, _, pt_c4, by decide, rfl, rfl, Or.inr ⟨by decide, "BuriedPairs", pt_n_ok (i := 185) (by decide +kernel)⟩⟩
set_option maxRecDepth 100000 in
theorem fk_0_151 : pm_OF pt_cl pt_Ts tables_1 (pt_cn 0) 0 151 5 2 .int false := ⟨_, _, _, _, pt_c5, by decide, rfl, rfl, Or.inr ⟨by decide, "BuriedPairs", pt_n_ok (i := 141) (by decide +kernel)⟩⟩
set_option maxRecDepth 100000 in
theorem fk_1_9 : pm_OF pt_cl pt_Ts tables_1 (pt_cn 1) 1 9 1 0 (.array .int) true := ⟨_, _, _, _, pt_c1, by decide, rfl, rfl, Or.inl ⟨pt_w_ok (i := 83) (by decide +kernel), rfl⟩⟩
set_option maxRecDepth 100000 in
theorem fk_1_15 : pm_OF pt_cl pt_Ts tables_1 (pt_cn 1) 1 15 1 1 (.array .int) true := ⟨_, _, _, _, pt_c1, by decide, rfl, rfl, Or.inl ⟨pt_w_ok (i := 86) (by decide +kernel), rfl⟩⟩
set_option maxRecDepth 100000 in
theorem fk_1_18 : pm_OF pt_cl pt_Ts tables_1 (pt_cn 1) 1 18 1 2 (.array .int) true := ⟨_, _, _, _, pt_c1, by decide, rfl, rfl, Or.inl ⟨pt_w_ok (i := 88) (by decide +kernel), rfl⟩⟩
set_option maxRecDepth 100000 in
theorem fk_1_21 : pm_OF pt_cl pt_Ts tables_1 (pt_cn 1) 1 21 1 3 (.array .int) true := ⟨_, _, _, _, pt_c1, by decide, rfl, rfl, Or.inl ⟨pt_w_ok (i := 90) (by decide +kernel), rfl⟩⟩
set_option maxRecDepth 100000 in
theorem fk_2_15 : pm_OF pt_cl pt_Ts tables_1 (pt_cn 2) 2 15 2 1 .int true := ⟨_, _, _, _, pt_c2, by decide, rfl, rfl, Or.inl ⟨pt_w_ok (i := 119) (by decide +kernel), rfl⟩⟩
set_option maxRecDepth 100000 in
theorem fk_2_21 : pm_OF pt_cl pt_Ts tables_1 (pt_cn 2) 2 21 2 0 (.array .int) true := ⟨_, _, _, _, pt_c2, by decide, rfl, rfl, Or.inl ⟨pt_w_ok (i := 118) (by decide +kernel), rfl⟩⟩
set_option maxRecDepth 100000 in
theorem fk_2_25 : pm_OF pt_cl pt_Ts tables_1 (pt_cn 2) 2 25 2 2 .int false := ⟨_, _, _, _, pt_c2, by decide, rfl, rfl, Or.inl ⟨pt_w_ok (i := 120) (by decide +kernel), rfl⟩⟩
set_option maxRecDepth 100000 in
theorem fk_3_9 : pm_OF pt_cl pt_Ts tables_1 (pt_cn 3) 3 9 3 0 (.array .int) true := ⟨_, _, _, _, pt_c3, by decide, rfl, rfl, Or.inl ⟨pt_w_ok (i := 316) (by decide +kernel), rfl⟩⟩
set_option maxRecDepth 100000 in
theorem fk_3_15 : pm_OF pt_cl pt_Ts tables_1 (pt_cn 3) 3 15 3 1 (.array .int) true := ⟨_, _, _, _, pt_c3, by decide, rfl, rfl, Or.inl ⟨pt_w_ok (i := 317) (by decide +kernel), rfl⟩⟩
set_option maxRecDepth 100000 in
theorem fk_3_18 : pm_OF pt_cl pt_Ts tables_1 (pt_cn 3) 3 18 3 2 (.array .int) true := ⟨_, _, _, _, pt_c3, by decide, rfl, rfl, Or.inl ⟨pt_w_ok (i := 318) (by decide +kernel), rfl⟩⟩
set_option maxRecDepth 100000 in
theorem fk_3_21 : pm_OF pt_cl pt_Ts tables_1 (pt_cn 3) 3 21 3 3 .int false := ⟨_, _, _, _, pt_c3, by decide, rfl, rfl, Or.inl ⟨pt_w_ok (i := 319) (by decide +kernel), rfl⟩⟩
set_option maxRecDepth 100000 in
theorem fk_3_25 : pm_OF pt_cl pt_Ts tables_1 (pt_cn 3) 3 25 3 4 .int false := ⟨_, _, _, _, pt_c3, by decide, rfl, rfl, Or.inl ⟨pt_w_ok (i := 320) (by decide +kernel), rfl⟩⟩
set_option maxRecDepth 100000 in
theorem fk_3_28 : pm_OF pt_cl pt_Ts tables_1 (pt_cn 3) 3 28 3 5 .int false := ⟨_, _, _, _, pt_c3, by decide, rfl, rfl, Or.inl ⟨pt_w_ok (i := 321) (by decide +kernel), rfl⟩⟩
set_option maxRecDepth 100000 in
theorem fk_3_51 : pm_OF pt_cl pt_Ts tables_1 (pt_cn 3) 3 51 9 9 (.object "BuriedPairs$Plan") false := ⟨_, _, _, _, pt_c9, by decide, rfl, rfl, Or.inr ⟨by decide, "BuriedPairs", pt_n_ok (i := 232) (by decide +kernel)⟩⟩
set_option maxRecDepth 100000 in
theorem fk_3_55 : pm_OF pt_cl pt_Ts tables_1 (pt_cn 3) 3 55 4 10 (.array .int) true := ⟨_, _, _, _, pt_c4, by decide, rfl, rfl, Or.inr ⟨by decide, "BuriedPairs", pt_n_ok (i := 188) (by decide +kernel)⟩⟩
set_option maxRecDepth 100000 in
theorem fk_4_9 : pm_OF pt_cl pt_Ts tables_1 (pt_cn 4) 4 9 4 0 .int false := ⟨_, _, _, _, pt_c4, by decide, rfl, rfl, Or.inl ⟨pt_w_ok (i := 159) (by decide +kernel), rfl⟩⟩
set_option maxRecDepth 100000 in
theorem fk_4_20 : pm_OF pt_cl pt_Ts tables_1 (pt_cn 4) 4 20 4 1 (.object "BuriedPairs$Ledger") true := ⟨_, _, _, _, pt_c4, by decide, rfl, rfl, Or.inl ⟨pt_w_ok (i := 162) (by decide +kernel), rfl⟩⟩
set_option maxRecDepth 100000 in
theorem fk_4_24 : pm_OF pt_cl pt_Ts tables_1 (pt_cn 4) 4 24 4 2 (.array .int) true := ⟨_, _, _, _, pt_c4, by decide, rfl, rfl, Or.inl ⟨pt_w_ok (i := 166) (by decide +kernel), rfl⟩⟩
set_option maxRecDepth 100000 in
theorem fk_4_28 : pm_OF pt_cl pt_Ts tables_1 (pt_cn 4) 4 28 4 3 (.array .int) true := ⟨_, _, _, _, pt_c4, by decide, rfl, rfl, Or.inl ⟨pt_w_ok (i := 167) (by decide +kernel), rfl⟩⟩
set_option maxRecDepth 100000 in
theorem fk_4_34 : pm_OF pt_cl pt_Ts tables_1 (pt_cn 4) 4 34 4 4 (.object "BuriedPairs$Layout") true := ⟨_, _, _, _, pt_c4, by decide, rfl, rfl, Or.inl ⟨pt_w_ok (i := 169) (by decide +kernel), rfl⟩⟩
set_option maxRecDepth 100000 in
theorem fk_4_38 : pm_OF pt_cl pt_Ts tables_1 (pt_cn 4) 4 38 4 5 (.object "BuriedPairs$Layout") true := ⟨_, _, _, _, pt_c4, by decide, rfl, rfl, Or.inl ⟨pt_w_ok (i := 172) (by decide +kernel), rfl⟩⟩
set_option maxRecDepth 100000 in
theorem fk_4_41 : pm_OF pt_cl pt_Ts tables_1 (pt_cn 4) 4 41 4 6 (.object "BuriedPairs$Ledger") true := ⟨_, _, _, _, pt_c4, by decide, rfl, rfl, Or.inl ⟨pt_w_ok (i := 175) (by decide +kernel), rfl⟩⟩
set_option maxRecDepth 100000 in
theorem fk_4_44 : pm_OF pt_cl pt_Ts tables_1 (pt_cn 4) 4 44 4 7 (.object "BuriedPairs$Ledger") true := ⟨_, _, _, _, pt_c4, by decide, rfl, rfl, Or.inl ⟨pt_w_ok (i := 178) (by decide +kernel), rfl⟩⟩
set_option maxRecDepth 100000 in
theorem fk_4_47 : pm_OF pt_cl pt_Ts tables_1 (pt_cn 4) 4 47 4 8 (.object "BuriedPairs$Ledger") true := ⟨_, _, _, _, pt_c4, by decide, rfl, rfl, Or.inl ⟨pt_w_ok (i := 181) (by decide +kernel), rfl⟩⟩
set_option maxRecDepth 100000 in
theorem fk_4_50 : pm_OF pt_cl pt_Ts tables_1 (pt_cn 4) 4 50 4 9 (.object "BuriedPairs$Ledger") true := ⟨_, _, _, _, pt_c4, by decide, rfl, rfl, Or.inl ⟨pt_w_ok (i := 184) (by decide +kernel), rfl⟩⟩
set_option maxRecDepth 100000 in
theorem fk_4_53 : pm_OF pt_cl pt_Ts tables_1 (pt_cn 4) 4 53 4 10 (.array .int) true := ⟨_, _, _, _, pt_c4, by decide, rfl, rfl, Or.inl ⟨pt_w_ok (i := 187) (by decide +kernel), rfl⟩⟩
set_option maxRecDepth 100000 in
theorem fk_4_59 : pm_OF pt_cl pt_Ts tables_1 (pt_cn 4) 4 59 4 11 (.object "BuriedPairs$Sheet") true := ⟨_, _, _, _, pt_c4, by decide, rfl, rfl, Or.inl ⟨pt_w_ok (i := 189) (by decide +kernel), rfl⟩⟩
set_option maxRecDepth 100000 in
theorem fk_4_144 : pm_OF pt_cl pt_Ts tables_1 (pt_cn 4) 4 144 1 3 (.array .int) true := ⟨_, _, _, _, pt_c1, by decide, rfl, rfl, Or.inr ⟨by decide, "BuriedPairs", pt_n_ok (i := 93) (by decide +kernel)⟩⟩
set_option maxRecDepth 100000 in
theorem fk_5_11 : pm_OF pt_cl pt_Ts tables_1 (pt_cn 5) 5 11 5 0 (.array (.array .int)) true := ⟨_, _, _, _, pt_c5, by decide, rfl, rfl, Or.inl ⟨pt_w_ok (i := 138) (by decide +kernel), rfl⟩⟩
set_option maxRecDepth 100000 in
theorem fk_5_17 : pm_OF pt_cl pt_Ts tables_1 (pt_cn 5) 5 17 5 1 (.array .int) true := ⟨_, _, _, _, pt_c5, by decide, rfl, rfl, Or.inl ⟨pt_w_ok (i := 139) (by decide +kernel), rfl⟩⟩
set_option maxRecDepth 100000 in
theorem fk_5_20 : pm_OF pt_cl pt_Ts tables_1 (pt_cn 5) 5 20 5 2 .int false := ⟨_, _, _, _, pt_c5, by decide, rfl, rfl, Or.inl ⟨pt_w_ok (i := 140) (by decide +kernel), rfl⟩⟩
set_option maxRecDepth 100000 in
theorem fk_5_24 : pm_OF pt_cl pt_Ts tables_1 (pt_cn 5) 5 24 5 3 .int false := ⟨_, _, _, _, pt_c5, by decide, rfl, rfl, Or.inl ⟨pt_w_ok (i := 142) (by decide +kernel), rfl⟩⟩
set_option maxRecDepth 100000 in
theorem fk_5_27 : pm_OF pt_cl pt_Ts tables_1 (pt_cn 5) 5 27 5 4 .boolean false := ⟨_, _, _, _, pt_c5, by decide, rfl, rfl, Or.inl ⟨pt_w_ok (i := 145) (by decide +kernel), rfl⟩⟩
set_option maxRecDepth 100000 in
theorem fk_6_9 : pm_OF pt_cl pt_Ts tables_1 (pt_cn 6) 6 9 6 0 (.array .int) true := ⟨_, _, _, _, pt_c6, by decide, rfl, rfl, Or.inl ⟨pt_w_ok (i := 36) (by decide +kernel), rfl⟩⟩
set_option maxRecDepth 100000 in
theorem fk_6_15 : pm_OF pt_cl pt_Ts tables_1 (pt_cn 6) 6 15 6 1 .int false := ⟨_, _, _, _, pt_c6, by decide, rfl, rfl, Or.inl ⟨pt_w_ok (i := 37) (by decide +kernel), rfl⟩⟩
set_option maxRecDepth 100000 in
theorem fk_7_9 : pm_OF pt_cl pt_Ts tables_1 (pt_cn 7) 7 9 7 0 (.object "BuriedPairs$Tape") true := ⟨_, _, _, _, pt_c7, by decide, rfl, rfl, Or.inl ⟨pt_w_ok (i := 50) (by decide +kernel), rfl⟩⟩
set_option maxRecDepth 100000 in
theorem fk_7_15 : pm_OF pt_cl pt_Ts tables_1 (pt_cn 7) 7 15 7 1 .int false := ⟨_, _, _, _, pt_c7, by decide, rfl, rfl, Or.inl ⟨pt_w_ok (i := 51) (by decide +kernel), rfl⟩⟩
set_option maxRecDepth 100000 in
theorem fk_7_19 : pm_OF pt_cl pt_Ts tables_1 (pt_cn 7) 7 19 7 2 .int false := ⟨_, _, _, _, pt_c7, by decide, rfl, rfl, Or.inl ⟨pt_w_ok (i := 52) (by decide +kernel), rfl⟩⟩
set_option maxRecDepth 100000 in
theorem fk_7_58 : pm_OF pt_cl pt_Ts tables_1 (pt_cn 7) 7 58 4 0 .int false := ⟨_, _, _, _, pt_c4, by decide, rfl, rfl, Or.inr ⟨by decide, "BuriedPairs", pt_n_ok (i := 160) (by decide +kernel)⟩⟩
set_option maxRecDepth 100000 in
theorem fk_7_81 : pm_OF pt_cl pt_Ts tables_1 (pt_cn 7) 7 81 4 1 (.object "BuriedPairs$Ledger") true := ⟨_, _, _, _, pt_c4, by decide, rfl, rfl, Or.inr ⟨by decide, "BuriedPairs", pt_n_ok (i := 164) (by decide +kernel)⟩⟩
set_option maxRecDepth 100000 in
theorem fk_7_95 : pm_OF pt_cl pt_Ts tables_1 (pt_cn 7) 7 95 4 4 (.object "BuriedPairs$Layout") true := ⟨_, _, _, _, pt_c4, by decide, rfl, rfl, Or.inr ⟨by decide, "BuriedPairs", pt_n_ok (i := 171) (by decide +kernel)⟩⟩
set_option maxRecDepth 100000 in
theorem fk_8_9 : pm_OF pt_cl pt_Ts tables_1 (pt_cn 8) 8 9 8 0 (.array .int) true := ⟨_, _, _, _, pt_c8, by decide, rfl, rfl, Or.inl ⟨pt_w_ok (i := 270) (by decide +kernel), rfl⟩⟩
set_option maxRecDepth 100000 in
theorem fk_8_15 : pm_OF pt_cl pt_Ts tables_1 (pt_cn 8) 8 15 8 1 (.array .int) true := ⟨_, _, _, _, pt_c8, by decide, rfl, rfl, Or.inl ⟨pt_w_ok (i := 271) (by decide +kernel), rfl⟩⟩
set_option maxRecDepth 100000 in
theorem fk_8_18 : pm_OF pt_cl pt_Ts tables_1 (pt_cn 8) 8 18 8 2 (.array .int) true := ⟨_, _, _, _, pt_c8, by decide, rfl, rfl, Or.inl ⟨pt_w_ok (i := 272) (by decide +kernel), rfl⟩⟩
set_option maxRecDepth 100000 in
theorem fk_8_21 : pm_OF pt_cl pt_Ts tables_1 (pt_cn 8) 8 21 8 3 (.array .int) true := ⟨_, _, _, _, pt_c8, by decide, rfl, rfl, Or.inl ⟨pt_w_ok (i := 273) (by decide +kernel), rfl⟩⟩
set_option maxRecDepth 100000 in
theorem fk_8_24 : pm_OF pt_cl pt_Ts tables_1 (pt_cn 8) 8 24 8 4 .int false := ⟨_, _, _, _, pt_c8, by decide, rfl, rfl, Or.inl ⟨pt_w_ok (i := 274) (by decide +kernel), rfl⟩⟩
set_option maxRecDepth 100000 in
theorem fk_8_75 : pm_OF pt_cl pt_Ts tables_1 (pt_cn 8) 8 75 9 1 (.array .int) true := ⟨_, _, _, _, pt_c9, by decide, rfl, rfl, Or.inr ⟨by decide, "BuriedPairs", pt_n_ok (i := 219) (by decide +kernel)⟩⟩
set_option maxRecDepth 100000 in
theorem fk_8_78 : pm_OF pt_cl pt_Ts tables_1 (pt_cn 8) 8 78 9 12 .int false := ⟨_, _, _, _, pt_c9, by decide, rfl, rfl, Or.inr ⟨by decide, "BuriedPairs", pt_n_ok (i := 236) (by decide +kernel)⟩⟩
set_option maxRecDepth 100000 in
theorem fk_8_81 : pm_OF pt_cl pt_Ts tables_1 (pt_cn 8) 8 81 9 6 (.array .int) true := ⟨_, _, _, _, pt_c9, by decide, rfl, rfl, Or.inr ⟨by decide, "BuriedPairs", pt_n_ok (i := 225) (by decide +kernel)⟩⟩
set_option maxRecDepth 100000 in
theorem fk_8_84 : pm_OF pt_cl pt_Ts tables_1 (pt_cn 8) 8 84 9 7 (.array .int) true := ⟨_, _, _, _, pt_c9, by decide, rfl, rfl, Or.inr ⟨by decide, "BuriedPairs", pt_n_ok (i := 227) (by decide +kernel)⟩⟩
set_option maxRecDepth 100000 in
theorem fk_8_87 : pm_OF pt_cl pt_Ts tables_1 (pt_cn 8) 8 87 9 8 (.array .int) true := ⟨_, _, _, _, pt_c9, by decide, rfl, rfl, Or.inr ⟨by decide, "BuriedPairs", pt_n_ok (i := 229) (by decide +kernel)⟩⟩
set_option maxRecDepth 100000 in
theorem fk_8_93 : pm_OF pt_cl pt_Ts tables_1 (pt_cn 8) 8 93 4 1 (.object "BuriedPairs$Ledger") true := ⟨_, _, _, _, pt_c4, by decide, rfl, rfl, Or.inr ⟨by decide, "BuriedPairs", pt_n_ok (i := 165) (by decide +kernel)⟩⟩
set_option maxRecDepth 100000 in
theorem fk_8_108 : pm_OF pt_cl pt_Ts tables_1 (pt_cn 8) 8 108 4 3 (.array .int) true := ⟨_, _, _, _, pt_c4, by decide, rfl, rfl, Or.inr ⟨by decide, "BuriedPairs", pt_n_ok (i := 168) (by decide +kernel)⟩⟩
set_option maxRecDepth 100000 in
theorem fk_9_12 : pm_OF pt_cl pt_Ts tables_1 (pt_cn 9) 9 12 9 0 (.object "BuriedPairs$Layout") true := ⟨_, _, _, _, pt_c9, by decide, rfl, rfl, Or.inl ⟨pt_w_ok (i := 217) (by decide +kernel), rfl⟩⟩
set_option maxRecDepth 100000 in
theorem fk_9_18 : pm_OF pt_cl pt_Ts tables_1 (pt_cn 9) 9 18 9 1 (.array .int) true := ⟨_, _, _, _, pt_c9, by decide, rfl, rfl, Or.inl ⟨pt_w_ok (i := 218) (by decide +kernel), rfl⟩⟩
set_option maxRecDepth 100000 in
theorem fk_9_22 : pm_OF pt_cl pt_Ts tables_1 (pt_cn 9) 9 22 9 2 (.array .int) true := ⟨_, _, _, _, pt_c9, by decide, rfl, rfl, Or.inl ⟨pt_w_ok (i := 220) (by decide +kernel), rfl⟩⟩
set_option maxRecDepth 100000 in
theorem fk_9_25 : pm_OF pt_cl pt_Ts tables_1 (pt_cn 9) 9 25 9 3 (.array .int) true := ⟨_, _, _, _, pt_c9, by decide, rfl, rfl, Or.inl ⟨pt_w_ok (i := 221) (by decide +kernel), rfl⟩⟩
set_option maxRecDepth 100000 in
theorem fk_9_28 : pm_OF pt_cl pt_Ts tables_1 (pt_cn 9) 9 28 9 4 (.array .int) true := ⟨_, _, _, _, pt_c9, by decide, rfl, rfl, Or.inl ⟨pt_w_ok (i := 222) (by decide +kernel), rfl⟩⟩
set_option maxRecDepth 100000 in
theorem fk_9_31 : pm_OF pt_cl pt_Ts tables_1 (pt_cn 9) 9 31 9 5 (.array .int) true := ⟨_, _, _, _, pt_c9, by decide, rfl, rfl, Or.inl ⟨pt_w_ok (i := 223) (by decide +kernel), rfl⟩⟩
set_option maxRecDepth 100000 in
theorem fk_9_34 : pm_OF pt_cl pt_Ts tables_1 (pt_cn 9) 9 34 9 6 (.array .int) true := ⟨_, _, _, _, pt_c9, by decide, rfl, rfl, Or.inl ⟨pt_w_ok (i := 224) (by decide +kernel), rfl⟩⟩
set_option maxRecDepth 100000 in
theorem fk_9_37 : pm_OF pt_cl pt_Ts tables_1 (pt_cn 9) 9 37 9 7 (.array .int) true := ⟨_, _, _, _, pt_c9, by decide, rfl, rfl, Or.inl ⟨pt_w_ok (i := 226) (by decide +kernel), rfl⟩⟩
set_option maxRecDepth 100000 in
theorem fk_9_40 : pm_OF pt_cl pt_Ts tables_1 (pt_cn 9) 9 40 9 8 (.array .int) true := ⟨_, _, _, _, pt_c9, by decide, rfl, rfl, Or.inl ⟨pt_w_ok (i := 228) (by decide +kernel), rfl⟩⟩
set_option maxRecDepth 100000 in
theorem fk_9_46 : pm_OF pt_cl pt_Ts tables_1 (pt_cn 9) 9 46 9 9 (.object "BuriedPairs$Plan") false := ⟨_, _, _, _, pt_c9, by decide, rfl, rfl, Or.inl ⟨pt_w_ok (i := 230) (by decide +kernel), rfl⟩⟩
set_option maxRecDepth 100000 in
theorem fk_9_50 : pm_OF pt_cl pt_Ts tables_1 (pt_cn 9) 9 50 9 10 (.object "BuriedPairs$Layout") false := ⟨_, _, _, _, pt_c9, by decide, rfl, rfl, Or.inl ⟨pt_w_ok (i := 233) (by decide +kernel), rfl⟩⟩
set_option maxRecDepth 100000 in
theorem fk_9_53 : pm_OF pt_cl pt_Ts tables_1 (pt_cn 9) 9 53 9 11 .int false := ⟨_, _, _, _, pt_c9, by decide, rfl, rfl, Or.inl ⟨pt_w_ok (i := 234) (by decide +kernel), rfl⟩⟩
set_option maxRecDepth 100000 in
theorem fk_9_57 : pm_OF pt_cl pt_Ts tables_1 (pt_cn 9) 9 57 9 12 .int false := ⟨_, _, _, _, pt_c9, by decide, rfl, rfl, Or.inl ⟨pt_w_ok (i := 235) (by decide +kernel), rfl⟩⟩
set_option maxRecDepth 100000 in
theorem fk_9_66 : pm_OF pt_cl pt_Ts tables_1 (pt_cn 9) 9 66 4 7 (.object "BuriedPairs$Ledger") true := ⟨_, _, _, _, pt_c4, by decide, rfl, rfl, Or.inr ⟨by decide, "BuriedPairs", pt_n_ok (i := 179) (by decide +kernel)⟩⟩
set_option maxRecDepth 100000 in
theorem fk_9_80 : pm_OF pt_cl pt_Ts tables_1 (pt_cn 9) 9 80 4 5 (.object "BuriedPairs$Layout") true := ⟨_, _, _, _, pt_c4, by decide, rfl, rfl, Or.inr ⟨by decide, "BuriedPairs", pt_n_ok (i := 173) (by decide +kernel)⟩⟩
set_option maxRecDepth 100000 in
theorem fk_9_105 : pm_OF pt_cl pt_Ts tables_1 (pt_cn 9) 9 105 4 4 (.object "BuriedPairs$Layout") true := ⟨_, _, _, _, pt_c4, by decide, rfl, rfl, Or.inr ⟨by decide, "BuriedPairs", pt_n_ok (i := 170) (by decide +kernel)⟩⟩
set_option maxRecDepth 100000 in
theorem fk_9_112 : pm_OF pt_cl pt_Ts tables_1 (pt_cn 9) 9 112 4 6 (.object "BuriedPairs$Ledger") true := ⟨_, _, _, _, pt_c4, by decide, rfl, rfl, Or.inr ⟨by decide, "BuriedPairs", pt_n_ok (i := 176) (by decide +kernel)⟩⟩
set_option maxRecDepth 100000 in
theorem fk_9_126 : pm_OF pt_cl pt_Ts tables_1 (pt_cn 9) 9 126 1 3 (.array .int) true := ⟨_, _, _, _, pt_c1, by decide, rfl, rfl, Or.inr ⟨by decide, "BuriedPairs", pt_n_ok (i := 91) (by decide +kernel)⟩⟩
set_option maxRecDepth 100000 in
theorem fk_9_129 : pm_OF pt_cl pt_Ts tables_1 (pt_cn 9) 9 129 1 0 (.array .int) true := ⟨_, _, _, _, pt_c1, by decide, rfl, rfl, Or.inr ⟨by decide, "BuriedPairs", pt_n_ok (i := 85) (by decide +kernel)⟩⟩
set_option maxRecDepth 100000 in
theorem fk_9_135 : pm_OF pt_cl pt_Ts tables_1 (pt_cn 9) 9 135 1 2 (.array .int) true := ⟨_, _, _, _, pt_c1, by decide, rfl, rfl, Or.inr ⟨by decide, "BuriedPairs", pt_n_ok (i := 89) (by decide +kernel)⟩⟩
set_option maxRecDepth 100000 in
theorem fk_9_165 : pm_OF pt_cl pt_Ts tables_1 (pt_cn 9) 9 165 1 1 (.array .int) true := ⟨_, _, _, _, pt_c1, by decide, rfl, rfl, Or.inr ⟨by decide, "BuriedPairs", pt_n_ok (i := 87) (by decide +kernel)⟩⟩
set_option maxRecDepth 100000 in
theorem fk_10_12 : pm_OF pt_cl pt_Ts tables_1 (pt_cn 10) 10 12 10 0 (.object "BuriedPairs$Tape") true := ⟨_, _, _, _, pt_c10, by decide, rfl, rfl, Or.inl ⟨pt_w_ok (i := 337) (by decide +kernel), rfl⟩⟩
set_option maxRecDepth 100000 in
theorem fk_10_21 : pm_OF pt_cl pt_Ts tables_1 (pt_cn 10) 10 21 10 1 (.object "BuriedPairs$TextReader") true := ⟨_, _, _, _, pt_c10, by decide, rfl, rfl, Or.inl ⟨pt_w_ok (i := 338) (by decide +kernel), rfl⟩⟩
set_option maxRecDepth 100000 in
theorem fk_10_27 : pm_OF pt_cl pt_Ts tables_1 (pt_cn 10) 10 27 10 2 (.array (.object "BuriedPairs$Plan")) true := ⟨_, _, _, _, pt_c10, by decide, rfl, rfl, Or.inl ⟨pt_w_ok (i := 339) (by decide +kernel), rfl⟩⟩
set_option maxRecDepth 100000 in
theorem fk_10_34 : pm_OF pt_cl pt_Ts tables_1 (pt_cn 10) 10 34 10 3 (.object "BuriedPairs$Bench") true := ⟨_, _, _, _, pt_c10, by decide, rfl, rfl, Or.inl ⟨pt_w_ok (i := 340) (by decide +kernel), rfl⟩⟩
set_option maxRecDepth 100000 in
theorem fk_10_41 : pm_OF pt_cl pt_Ts tables_1 (pt_cn 10) 10 41 10 4 (.object "BuriedPairs$Mover") true := ⟨_, _, _, _, pt_c10, by decide, rfl, rfl, Or.inl ⟨pt_w_ok (i := 341) (by decide +kernel), rfl⟩⟩
set_option maxRecDepth 100000 in
theorem fk_10_46 : pm_OF pt_cl pt_Ts tables_1 (pt_cn 10) 10 46 10 5 (.object "BuriedPairs$Plan") false := ⟨_, _, _, _, pt_c10, by decide, rfl, rfl, Or.inl ⟨pt_w_ok (i := 342) (by decide +kernel), rfl⟩⟩
set_option maxRecDepth 100000 in
theorem fk_10_50 : pm_OF pt_cl pt_Ts tables_1 (pt_cn 10) 10 50 10 6 .int false := ⟨_, _, _, _, pt_c10, by decide, rfl, rfl, Or.inl ⟨pt_w_ok (i := 343) (by decide +kernel), rfl⟩⟩
set_option maxRecDepth 100000 in
theorem fk_10_84 : pm_OF pt_cl pt_Ts tables_1 (pt_cn 10) 10 84 4 1 (.object "BuriedPairs$Ledger") true := ⟨_, _, _, _, pt_c4, by decide, rfl, rfl, Or.inr ⟨by decide, "BuriedPairs", pt_n_ok (i := 163) (by decide +kernel)⟩⟩
set_option maxRecDepth 100000 in
theorem fk_10_98 : pm_OF pt_cl pt_Ts tables_1 (pt_cn 10) 10 98 4 5 (.object "BuriedPairs$Layout") true := ⟨_, _, _, _, pt_c4, by decide, rfl, rfl, Or.inr ⟨by decide, "BuriedPairs", pt_n_ok (i := 174) (by decide +kernel)⟩⟩
set_option maxRecDepth 100000 in
theorem fk_10_102 : pm_OF pt_cl pt_Ts tables_1 (pt_cn 10) 10 102 1 0 (.array .int) true := ⟨_, _, _, _, pt_c1, by decide, rfl, rfl, Or.inr ⟨by decide, "BuriedPairs", pt_n_ok (i := 84) (by decide +kernel)⟩⟩
set_option maxRecDepth 100000 in
theorem fk_10_115 : pm_OF pt_cl pt_Ts tables_1 (pt_cn 10) 10 115 1 3 (.array .int) true := ⟨_, _, _, _, pt_c1, by decide, rfl, rfl, Or.inr ⟨by decide, "BuriedPairs", pt_n_ok (i := 92) (by decide +kernel)⟩⟩
set_option maxRecDepth 100000 in
theorem fk_10_136 : pm_OF pt_cl pt_Ts tables_1 (pt_cn 10) 10 136 4 7 (.object "BuriedPairs$Ledger") true := ⟨_, _, _, _, pt_c4, by decide, rfl, rfl, Or.inr ⟨by decide, "BuriedPairs", pt_n_ok (i := 180) (by decide +kernel)⟩⟩
set_option maxRecDepth 100000 in
theorem fk_10_147 : pm_OF pt_cl pt_Ts tables_1 (pt_cn 10) 10 147 0 0 (.object "BuriedPairs$Wires") true := ⟨_, _, _, _, pt_c0, by decide, rfl, rfl, Or.inr ⟨by decide, "BuriedPairs", pt_n_ok (i := 287) (by decide +kernel)⟩⟩
set_option maxRecDepth 100000 in
theorem fk_10_157 : pm_OF pt_cl pt_Ts tables_1 (pt_cn 10) 10 157 0 1 (.object "BuriedPairs$Tone") true := ⟨_, _, _, _, pt_c0, by decide, rfl, rfl, Or.inr ⟨by decide, "BuriedPairs", pt_n_ok (i := 289) (by decide +kernel)⟩⟩
set_option maxRecDepth 100000 in
theorem fk_10_200 : pm_OF pt_cl pt_Ts tables_1 (pt_cn 10) 10 200 4 8 (.object "BuriedPairs$Ledger") true := ⟨_, _, _, _, pt_c4, by decide, rfl, rfl, Or.inr ⟨by decide, "BuriedPairs", pt_n_ok (i := 183) (by decide +kernel)⟩⟩
set_option maxRecDepth 100000 in
theorem fk_10_224 : pm_OF pt_cl pt_Ts tables_1 (pt_cn 10) 10 224 4 11 (.object "BuriedPairs$Sheet") true := ⟨_, _, _, _, pt_c4, by decide, rfl, rfl, Or.inr ⟨by decide, "BuriedPairs", pt_n_ok (i := 191) (by decide +kernel)⟩⟩
set_option maxRecDepth 100000 in
theorem fk_10_228 : pm_OF pt_cl pt_Ts tables_1 (pt_cn 10) 10 228 5 3 .int false := ⟨_, _, _, _, pt_c5, by decide, rfl, rfl, Or.inr ⟨by decide, "BuriedPairs", pt_n_ok (i := 144) (by decide +kernel)⟩⟩
set_option maxRecDepth 100000 in
theorem fk_10_255 : pm_OF pt_cl pt_Ts tables_1 (pt_cn 10) 10 255 0 4 .int false := ⟨_, _, _, _, pt_c0, by decide, rfl, rfl, Or.inr ⟨by decide, "BuriedPairs", pt_n_ok (i := 293) (by decide +kernel)⟩⟩
set_option maxRecDepth 100000 in
theorem fk_10_258 : pm_OF pt_cl pt_Ts tables_1 (pt_cn 10) 10 258 0 5 .int false := ⟨_, _, _, _, pt_c0, by decide, rfl, rfl, Or.inr ⟨by decide, "BuriedPairs", pt_n_ok (i := 295) (by decide +kernel)⟩⟩
set_option maxRecDepth 100000 in
theorem fk_10_286 : pm_OF pt_cl pt_Ts tables_1 (pt_cn 10) 10 286 3 5 .int false := ⟨_, _, _, _, pt_c3, by decide, rfl, rfl, Or.inr ⟨by decide, "BuriedPairs", pt_n_ok (i := 322) (by decide +kernel)⟩⟩
set_option maxRecDepth 100000 in
theorem fk_10_292 : pm_OF pt_cl pt_Ts tables_1 (pt_cn 10) 10 292 4 0 .int false := ⟨_, _, _, _, pt_c4, by decide, rfl, rfl, Or.inr ⟨by decide, "BuriedPairs", pt_n_ok (i := 161) (by decide +kernel)⟩⟩
set_option maxRecDepth 100000 in
theorem fk_10_295 : pm_OF pt_cl pt_Ts tables_1 (pt_cn 10) 10 295 4 6 (.object "BuriedPairs$Ledger") true := ⟨_, _, _, _, pt_c4, by decide, rfl, rfl, Or.inr ⟨by decide, "BuriedPairs", pt_n_ok (i := 177) (by decide +kernel)⟩⟩
set_option maxRecDepth 100000 in
theorem fk_10_298 : pm_OF pt_cl pt_Ts tables_1 (pt_cn 10) 10 298 4 9 (.object "BuriedPairs$Ledger") true := ⟨_, _, _, _, pt_c4, by decide, rfl, rfl, Or.inr ⟨by decide, "BuriedPairs", pt_n_ok (i := 186) (by decide +kernel)⟩⟩
set_option maxRecDepth 100000 in
theorem fk_11_9 : pm_OF pt_cl pt_Ts tables_1 (pt_cn 11) 11 9 11 1 (.array .byte) true := ⟨_, _, _, _, pt_c11, by decide, rfl, rfl, Or.inl ⟨pt_w_ok (i := 1110) (by decide +kernel), rfl⟩⟩
set_option maxRecDepth 100000 in
theorem fk_11_13 : pm_OF pt_cl pt_Ts tables_1 (pt_cn 11) 11 13 11 6 (.array .int) true := ⟨_, _, _, _, pt_c11, by decide, rfl, rfl, Or.inl ⟨pt_w_ok (i := 1115) (by decide +kernel), rfl⟩⟩
set_option maxRecDepth 100000 in
theorem fk_11_17 : pm_OF pt_cl pt_Ts tables_1 (pt_cn 11) 11 17 11 7 (.array .int) true := ⟨_, _, _, _, pt_c11, by decide, rfl, rfl, Or.inl ⟨pt_w_ok (i := 1116) (by decide +kernel), rfl⟩⟩
set_option maxRecDepth 100000 in
theorem fk_11_20 : pm_OF pt_cl pt_Ts tables_1 (pt_cn 11) 11 20 11 8 (.array .int) true := ⟨_, _, _, _, pt_c11, by decide, rfl, rfl, Or.inl ⟨pt_w_ok (i := 1117) (by decide +kernel), rfl⟩⟩
set_option maxRecDepth 100000 in
theorem fk_11_23 : pm_OF pt_cl pt_Ts tables_1 (pt_cn 11) 11 23 11 9 (.array .int) true := ⟨_, _, _, _, pt_c11, by decide, rfl, rfl, Or.inl ⟨pt_w_ok (i := 1118) (by decide +kernel), rfl⟩⟩
set_option maxRecDepth 100000 in
theorem fk_11_26 : pm_OF pt_cl pt_Ts tables_1 (pt_cn 11) 11 26 11 10 (.array .int) true := ⟨_, _, _, _, pt_c11, by decide, rfl, rfl, Or.inl ⟨pt_w_ok (i := 1119) (by decide +kernel), rfl⟩⟩
set_option maxRecDepth 100000 in
theorem fk_11_29 : pm_OF pt_cl pt_Ts tables_1 (pt_cn 11) 11 29 11 11 (.array .int) true := ⟨_, _, _, _, pt_c11, by decide, rfl, rfl, Or.inl ⟨pt_w_ok (i := 1120) (by decide +kernel), rfl⟩⟩
set_option maxRecDepth 100000 in
theorem fk_11_32 : pm_OF pt_cl pt_Ts tables_1 (pt_cn 11) 11 32 11 12 (.array .int) true := ⟨_, _, _, _, pt_c11, by decide, rfl, rfl, Or.inl ⟨pt_w_ok (i := 1121) (by decide +kernel), rfl⟩⟩
set_option maxRecDepth 100000 in
theorem fk_11_35 : pm_OF pt_cl pt_Ts tables_1 (pt_cn 11) 11 35 11 13 (.array .int) true := ⟨_, _, _, _, pt_c11, by decide, rfl, rfl, Or.inl ⟨pt_w_ok (i := 1122) (by decide +kernel), rfl⟩⟩
set_option maxRecDepth 100000 in
theorem fk_11_38 : pm_OF pt_cl pt_Ts tables_1 (pt_cn 11) 11 38 11 14 (.array .int) true := ⟨_, _, _, _, pt_c11, by decide, rfl, rfl, Or.inl ⟨pt_w_ok (i := 1123) (by decide +kernel), rfl⟩⟩
set_option maxRecDepth 100000 in
theorem fk_11_41 : pm_OF pt_cl pt_Ts tables_1 (pt_cn 11) 11 41 11 15 (.array .int) true := ⟨_, _, _, _, pt_c11, by decide, rfl, rfl, Or.inl ⟨pt_w_ok (i := 1124) (by decide +kernel), rfl⟩⟩
set_option maxRecDepth 100000 in
theorem fk_11_44 : pm_OF pt_cl pt_Ts tables_1 (pt_cn 11) 11 44 11 16 (.array .int) true := ⟨_, _, _, _, pt_c11, by decide, rfl, rfl, Or.inl ⟨pt_w_ok (i := 1125) (by decide +kernel), rfl⟩⟩
set_option maxRecDepth 100000 in
theorem fk_11_47 : pm_OF pt_cl pt_Ts tables_1 (pt_cn 11) 11 47 11 17 (.array .int) true := ⟨_, _, _, _, pt_c11, by decide, rfl, rfl, Or.inl ⟨pt_w_ok (i := 1126) (by decide +kernel), rfl⟩⟩
set_option maxRecDepth 100000 in
theorem fk_11_50 : pm_OF pt_cl pt_Ts tables_1 (pt_cn 11) 11 50 11 18 (.array .int) true := ⟨_, _, _, _, pt_c11, by decide, rfl, rfl, Or.inl ⟨pt_w_ok (i := 1127) (by decide +kernel), rfl⟩⟩
set_option maxRecDepth 100000 in
theorem fk_11_53 : pm_OF pt_cl pt_Ts tables_1 (pt_cn 11) 11 53 11 20 (.array .int) true := ⟨_, _, _, _, pt_c11, by decide, rfl, rfl, Or.inl ⟨pt_w_ok (i := 1129) (by decide +kernel), rfl⟩⟩
set_option maxRecDepth 100000 in
theorem fk_11_56 : pm_OF pt_cl pt_Ts tables_1 (pt_cn 11) 11 56 11 21 (.array .int) true := ⟨_, _, _, _, pt_c11, by decide, rfl, rfl, Or.inl ⟨pt_w_ok (i := 1130) (by decide +kernel), rfl⟩⟩
set_option maxRecDepth 100000 in
theorem fk_11_59 : pm_OF pt_cl pt_Ts tables_1 (pt_cn 11) 11 59 11 22 (.array .int) true := ⟨_, _, _, _, pt_c11, by decide, rfl, rfl, Or.inl ⟨pt_w_ok (i := 1131) (by decide +kernel), rfl⟩⟩
set_option maxRecDepth 100000 in
theorem fk_11_62 : pm_OF pt_cl pt_Ts tables_1 (pt_cn 11) 11 62 11 23 (.array .int) true := ⟨_, _, _, _, pt_c11, by decide, rfl, rfl, Or.inl ⟨pt_w_ok (i := 1132) (by decide +kernel), rfl⟩⟩
set_option maxRecDepth 100000 in
theorem fk_11_65 : pm_OF pt_cl pt_Ts tables_1 (pt_cn 11) 11 65 11 24 (.array .int) true := ⟨_, _, _, _, pt_c11, by decide, rfl, rfl, Or.inl ⟨pt_w_ok (i := 1133) (by decide +kernel), rfl⟩⟩
set_option maxRecDepth 100000 in
theorem fk_11_68 : pm_OF pt_cl pt_Ts tables_1 (pt_cn 11) 11 68 11 25 (.array .int) true := ⟨_, _, _, _, pt_c11, by decide, rfl, rfl, Or.inl ⟨pt_w_ok (i := 1134) (by decide +kernel), rfl⟩⟩
set_option maxRecDepth 100000 in
theorem fk_11_71 : pm_OF pt_cl pt_Ts tables_1 (pt_cn 11) 11 71 11 26 (.array .int) true := ⟨_, _, _, _, pt_c11, by decide, rfl, rfl, Or.inl ⟨pt_w_ok (i := 1135) (by decide +kernel), rfl⟩⟩
set_option maxRecDepth 100000 in
theorem fk_11_74 : pm_OF pt_cl pt_Ts tables_1 (pt_cn 11) 11 74 11 27 (.array .int) true := ⟨_, _, _, _, pt_c11, by decide, rfl, rfl, Or.inl ⟨pt_w_ok (i := 1136) (by decide +kernel), rfl⟩⟩
set_option maxRecDepth 100000 in
theorem fk_11_77 : pm_OF pt_cl pt_Ts tables_1 (pt_cn 11) 11 77 11 28 (.array .int) true := ⟨_, _, _, _, pt_c11, by decide, rfl, rfl, Or.inl ⟨pt_w_ok (i := 1137) (by decide +kernel), rfl⟩⟩
set_option maxRecDepth 100000 in
theorem fk_11_80 : pm_OF pt_cl pt_Ts tables_1 (pt_cn 11) 11 80 11 35 (.array .boolean) true := ⟨_, _, _, _, pt_c11, by decide, rfl, rfl, Or.inl ⟨pt_w_ok (i := 1144) (by decide +kernel), rfl⟩⟩
set_option maxRecDepth 100000 in
theorem fk_11_84 : pm_OF pt_cl pt_Ts tables_1 (pt_cn 11) 11 84 11 36 (.array .long) true := ⟨_, _, _, _, pt_c11, by decide, rfl, rfl, Or.inl ⟨pt_w_ok (i := 1145) (by decide +kernel), rfl⟩⟩
set_option maxRecDepth 100000 in
theorem fk_11_88 : pm_OF pt_cl pt_Ts tables_1 (pt_cn 11) 11 88 11 37 (.array .int) true := ⟨_, _, _, _, pt_c11, by decide, rfl, rfl, Or.inl ⟨pt_w_ok (i := 1146) (by decide +kernel), rfl⟩⟩
set_option maxRecDepth 100000 in
theorem fk_11_91 : pm_OF pt_cl pt_Ts tables_1 (pt_cn 11) 11 91 11 38 (.array .int) true := ⟨_, _, _, _, pt_c11, by decide, rfl, rfl, Or.inl ⟨pt_w_ok (i := 1147) (by decide +kernel), rfl⟩⟩
set_option maxRecDepth 100000 in
theorem fk_11_94 : pm_OF pt_cl pt_Ts tables_1 (pt_cn 11) 11 94 11 39 (.array .int) true := ⟨_, _, _, _, pt_c11, by decide, rfl, rfl, Or.inl ⟨pt_w_ok (i := 1148) (by decide +kernel), rfl⟩⟩
set_option maxRecDepth 100000 in
theorem fk_11_97 : pm_OF pt_cl pt_Ts tables_1 (pt_cn 11) 11 97 11 40 (.array .int) true := ⟨_, _, _, _, pt_c11, by decide, rfl, rfl, Or.inl ⟨pt_w_ok (i := 1149) (by decide +kernel), rfl⟩⟩
set_option maxRecDepth 100000 in
theorem fk_11_100 : pm_OF pt_cl pt_Ts tables_1 (pt_cn 11) 11 100 11 41 (.array .int) true := ⟨_, _, _, _, pt_c11, by decide, rfl, rfl, Or.inl ⟨pt_w_ok (i := 1150) (by decide +kernel), rfl⟩⟩
set_option maxRecDepth 100000 in
theorem fk_11_103 : pm_OF pt_cl pt_Ts tables_1 (pt_cn 11) 11 103 11 42 (.array .int) true := ⟨_, _, _, _, pt_c11, by decide, rfl, rfl, Or.inl ⟨pt_w_ok (i := 1151) (by decide +kernel), rfl⟩⟩
set_option maxRecDepth 100000 in
theorem fk_11_106 : pm_OF pt_cl pt_Ts tables_1 (pt_cn 11) 11 106 11 43 (.array .int) true := ⟨_, _, _, _, pt_c11, by decide, rfl, rfl, Or.inl ⟨pt_w_ok (i := 1152) (by decide +kernel), rfl⟩⟩
set_option maxRecDepth 100000 in
theorem fk_11_109 : pm_OF pt_cl pt_Ts tables_1 (pt_cn 11) 11 109 11 44 (.array .int) true := ⟨_, _, _, _, pt_c11, by decide, rfl, rfl, Or.inl ⟨pt_w_ok (i := 1153) (by decide +kernel), rfl⟩⟩
set_option maxRecDepth 100000 in
theorem fk_11_112 : pm_OF pt_cl pt_Ts tables_1 (pt_cn 11) 11 112 11 45 (.array .int) true := ⟨_, _, _, _, pt_c11, by decide, rfl, rfl, Or.inl ⟨pt_w_ok (i := 1154) (by decide +kernel), rfl⟩⟩
set_option maxRecDepth 100000 in
theorem fk_11_115 : pm_OF pt_cl pt_Ts tables_1 (pt_cn 11) 11 115 11 46 (.array .int) true := ⟨_, _, _, _, pt_c11, by decide, rfl, rfl, Or.inl ⟨pt_w_ok (i := 1155) (by decide +kernel), rfl⟩⟩
set_option maxRecDepth 100000 in
theorem fk_11_118 : pm_OF pt_cl pt_Ts tables_1 (pt_cn 11) 11 118 11 47 (.array .boolean) true := ⟨_, _, _, _, pt_c11, by decide, rfl, rfl, Or.inl ⟨pt_w_ok (i := 1156) (by decide +kernel), rfl⟩⟩
set_option maxRecDepth 100000 in
theorem fk_11_121 : pm_OF pt_cl pt_Ts tables_1 (pt_cn 11) 11 121 11 48 (.array .boolean) true := ⟨_, _, _, _, pt_c11, by decide, rfl, rfl, Or.inl ⟨pt_w_ok (i := 1157) (by decide +kernel), rfl⟩⟩
set_option maxRecDepth 100000 in
theorem fk_11_124 : pm_OF pt_cl pt_Ts tables_1 (pt_cn 11) 11 124 11 49 (.array .int) true := ⟨_, _, _, _, pt_c11, by decide, rfl, rfl, Or.inl ⟨pt_w_ok (i := 1158) (by decide +kernel), rfl⟩⟩
set_option maxRecDepth 100000 in
theorem fk_11_127 : pm_OF pt_cl pt_Ts tables_1 (pt_cn 11) 11 127 11 50 (.array .int) true := ⟨_, _, _, _, pt_c11, by decide, rfl, rfl, Or.inl ⟨pt_w_ok (i := 1159) (by decide +kernel), rfl⟩⟩
set_option maxRecDepth 100000 in
theorem fk_11_130 : pm_OF pt_cl pt_Ts tables_1 (pt_cn 11) 11 130 11 53 (.array .int) true := ⟨_, _, _, _, pt_c11, by decide, rfl, rfl, Or.inl ⟨pt_w_ok (i := 1162) (by decide +kernel), rfl⟩⟩
set_option maxRecDepth 100000 in
theorem fk_11_133 : pm_OF pt_cl pt_Ts tables_1 (pt_cn 11) 11 133 11 54 (.array .boolean) true := ⟨_, _, _, _, pt_c11, by decide, rfl, rfl, Or.inl ⟨pt_w_ok (i := 1163) (by decide +kernel), rfl⟩⟩
set_option maxRecDepth 100000 in
theorem fk_11_136 : pm_OF pt_cl pt_Ts tables_1 (pt_cn 11) 11 136 11 55 (.array .boolean) true := ⟨_, _, _, _, pt_c11, by decide, rfl, rfl, Or.inl ⟨pt_w_ok (i := 1164) (by decide +kernel), rfl⟩⟩
set_option maxRecDepth 100000 in
theorem fk_11_139 : pm_OF pt_cl pt_Ts tables_1 (pt_cn 11) 11 139 11 56 (.array .int) true := ⟨_, _, _, _, pt_c11, by decide, rfl, rfl, Or.inl ⟨pt_w_ok (i := 1165) (by decide +kernel), rfl⟩⟩
set_option maxRecDepth 100000 in
theorem fk_11_142 : pm_OF pt_cl pt_Ts tables_1 (pt_cn 11) 11 142 11 0 .int false := ⟨_, _, _, _, pt_c11, by decide, rfl, rfl, Or.inl ⟨pt_w_ok (i := 1109) (by decide +kernel), rfl⟩⟩
set_option maxRecDepth 100000 in
theorem fk_11_146 : pm_OF pt_cl pt_Ts tables_1 (pt_cn 11) 11 146 11 2 .int false := ⟨_, _, _, _, pt_c11, by decide, rfl, rfl, Or.inl ⟨pt_w_ok (i := 1111) (by decide +kernel), rfl⟩⟩
set_option maxRecDepth 100000 in
theorem fk_11_157 : pm_OF pt_cl pt_Ts tables_1 (pt_cn 11) 11 157 11 3 .int false := ⟨_, _, _, _, pt_c11, by decide, rfl, rfl, Or.inl ⟨pt_w_ok (i := 1112) (by decide +kernel), rfl⟩⟩
set_option maxRecDepth 100000 in
theorem fk_11_164 : pm_OF pt_cl pt_Ts tables_1 (pt_cn 11) 11 164 11 4 .int false := ⟨_, _, _, _, pt_c11, by decide, rfl, rfl, Or.inl ⟨pt_w_ok (i := 1113) (by decide +kernel), rfl⟩⟩
set_option maxRecDepth 100000 in
theorem fk_11_178 : pm_OF pt_cl pt_Ts tables_1 (pt_cn 11) 11 178 11 5 .int false := ⟨_, _, _, _, pt_c11, by decide, rfl, rfl, Or.inl ⟨pt_w_ok (i := 1114) (by decide +kernel), rfl⟩⟩
set_option maxRecDepth 100000 in
theorem fk_11_196 : pm_OF pt_cl pt_Ts tables_1 (pt_cn 11) 11 196 11 19 .int false := ⟨_, _, _, _, pt_c11, by decide, rfl, rfl, Or.inl ⟨pt_w_ok (i := 1128) (by decide +kernel), rfl⟩⟩
set_option maxRecDepth 100000 in
theorem fk_11_217 : pm_OF pt_cl pt_Ts tables_1 (pt_cn 11) 11 217 11 30 .int false := ⟨_, _, _, _, pt_c11, by decide, rfl, rfl, Or.inl ⟨pt_w_ok (i := 1139) (by decide +kernel), rfl⟩⟩
set_option maxRecDepth 100000 in
theorem fk_11_220 : pm_OF pt_cl pt_Ts tables_1 (pt_cn 11) 11 220 11 29 .int false := ⟨_, _, _, _, pt_c11, by decide, rfl, rfl, Or.inl ⟨pt_w_ok (i := 1138) (by decide +kernel), rfl⟩⟩
set_option maxRecDepth 100000 in
theorem fk_11_226 : pm_OF pt_cl pt_Ts tables_1 (pt_cn 11) 11 226 11 34 .boolean false := ⟨_, _, _, _, pt_c11, by decide, rfl, rfl, Or.inl ⟨pt_w_ok (i := 1143) (by decide +kernel), rfl⟩⟩
set_option maxRecDepth 100000 in
theorem fk_11_230 : pm_OF pt_cl pt_Ts tables_1 (pt_cn 11) 11 230 11 31 .int false := ⟨_, _, _, _, pt_c11, by decide, rfl, rfl, Or.inl ⟨pt_w_ok (i := 1140) (by decide +kernel), rfl⟩⟩
set_option maxRecDepth 100000 in
theorem fk_11_242 : pm_OF pt_cl pt_Ts tables_1 (pt_cn 11) 11 242 11 32 .int false := ⟨_, _, _, _, pt_c11, by decide, rfl, rfl, Or.inl ⟨pt_w_ok (i := 1141) (by decide +kernel), rfl⟩⟩
set_option maxRecDepth 100000 in
theorem fk_11_245 : pm_OF pt_cl pt_Ts tables_1 (pt_cn 11) 11 245 11 33 .int false := ⟨_, _, _, _, pt_c11, by decide, rfl, rfl, Or.inl ⟨pt_w_ok (i := 1142) (by decide +kernel), rfl⟩⟩
set_option maxRecDepth 100000 in
theorem fk_11_337 : pm_OF pt_cl pt_Ts tables_1 (pt_cn 11) 11 337 11 51 .int false := ⟨_, _, _, _, pt_c11, by decide, rfl, rfl, Or.inl ⟨pt_w_ok (i := 1160) (by decide +kernel), rfl⟩⟩
set_option maxRecDepth 100000 in
theorem fk_11_340 : pm_OF pt_cl pt_Ts tables_1 (pt_cn 11) 11 340 11 52 .int false := ⟨_, _, _, _, pt_c11, by decide, rfl, rfl, Or.inl ⟨pt_w_ok (i := 1161) (by decide +kernel), rfl⟩⟩
set_option maxRecDepth 100000 in
theorem fk_11_369 : pm_OF pt_cl pt_Ts tables_1 (pt_cn 11) 11 369 11 57 .int false := ⟨_, _, _, _, pt_c11, by decide, rfl, rfl, Or.inl ⟨pt_w_ok (i := 1166) (by decide +kernel), rfl⟩⟩
def pt_fl (co : Nat) : List (Nat × Nat × Nat × FieldType × Bool) := match co with
  | 0 => [(12, 0, 0, (.object "BuriedPairs$Wires"), true), (21, 0, 1, (.object "BuriedPairs$Tone"), true), (25, 0, 2, (.array .long), true), (29, 0, 3, (.array .int), true), (33, 0, 4, .int, false), (37, 0, 5, .int, false), (44, 9, 9, (.object "BuriedPairs$Plan"), false), (85, 4, 8, (.object "BuriedPairs$Ledger"), true), (101, 4, 11, (.object "BuriedPairs$Sheet"), true), (105, 5, 4, .boolean, false), (119, 5, 3, .int, false), (134, 4, 9, (.object "BuriedPairs$Ledger"), true), (151, 5, 2, .int, false)]
  | 1 => [(9, 1, 0, (.array .int), true), (15, 1, 1, (.array .int), true), (18, 1, 2, (.array .int), true), (21, 1, 3, (.array .int), true)]
  | 2 => [(15, 2, 1, .int, true), (21, 2, 0, (.array .int), true), (25, 2, 2, .int, false)]
  | 3 => [(9, 3, 0, (.array .int), true), (15, 3, 1, (.array .int), true), (18, 3, 2, (.array .int), true), (21, 3, 3, .int, false), (25, 3, 4, .int, false), (28, 3, 5, .int, false), (51, 9, 9, (.object "BuriedPairs$Plan"), false), (55, 4, 10, (.array .int), true)]
  | 4 => [(9, 4, 0, .int, false), (20, 4, 1, (.object "BuriedPairs$Ledger"), true), (24, 4, 2, (.array .int), true), (28, 4, 3, (.array .int), true), (34, 4, 4, (.object "BuriedPairs$Layout"), true), (38, 4, 5, (.object "BuriedPairs$Layout"), true), (41, 4, 6, (.object "BuriedPairs$Ledger"), true), (44, 4, 7, (.object "BuriedPairs$Ledger"), true), (47, 4, 8, (.object "BuriedPairs$Ledger"), true), (50, 4, 9, (.object "BuriedPairs$Ledger"), true), (53, 4, 10, (.array .int), true), (59, 4, 11, (.object "BuriedPairs$Sheet"), true), (144, 1, 3, (.array .int), true)]
  | 5 => [(11, 5, 0, (.array (.array .int)), true), (17, 5, 1, (.array .int), true), (20, 5, 2, .int, false), (24, 5, 3, .int, false), (27, 5, 4, .boolean, false)]
  | 6 => [(9, 6, 0, (.array .int), true), (15, 6, 1, .int, false)]
  | 7 => [(9, 7, 0, (.object "BuriedPairs$Tape"), true), (15, 7, 1, .int, false), (19, 7, 2, .int, false), (58, 4, 0, .int, false), (81, 4, 1, (.object "BuriedPairs$Ledger"), true), (95, 4, 4, (.object "BuriedPairs$Layout"), true)]
  | 8 => [(9, 8, 0, (.array .int), true), (15, 8, 1, (.array .int), true), (18, 8, 2, (.array .int), true), (21, 8, 3, (.array .int), true), (24, 8, 4, .int, false), (75, 9, 1, (.array .int), true), (78, 9, 12, .int, false), (81, 9, 6, (.array .int), true), (84, 9, 7, (.array .int), true), (87, 9, 8, (.array .int), true), (93, 4, 1, (.object "BuriedPairs$Ledger"), true), (108, 4, 3, (.array .int), true)]
  | 9 => [(12, 9, 0, (.object "BuriedPairs$Layout"), true), (18, 9, 1, (.array .int), true), (22, 9, 2, (.array .int), true), (25, 9, 3, (.array .int), true), (28, 9, 4, (.array .int), true), (31, 9, 5, (.array .int), true), (34, 9, 6, (.array .int), true), (37, 9, 7, (.array .int), true), (40, 9, 8, (.array .int), true), (46, 9, 9, (.object "BuriedPairs$Plan"), false), (50, 9, 10, (.object "BuriedPairs$Layout"), false), (53, 9, 11, .int, false), (57, 9, 12, .int, false), (66, 4, 7, (.object "BuriedPairs$Ledger"), true), (80, 4, 5, (.object "BuriedPairs$Layout"), true), (105, 4, 4, (.object "BuriedPairs$Layout"), true), (112, 4, 6, (.object "BuriedPairs$Ledger"), true), (126, 1, 3, (.array .int), true), (129, 1, 0, (.array .int), true), (135, 1, 2, (.array .int), true), (165, 1, 1, (.array .int), true)]
  | 10 => [(12, 10, 0, (.object "BuriedPairs$Tape"), true), (21, 10, 1, (.object "BuriedPairs$TextReader"), true), (27, 10, 2, (.array (.object "BuriedPairs$Plan")), true), (34, 10, 3, (.object "BuriedPairs$Bench"), true), (41, 10, 4, (.object "BuriedPairs$Mover"), true), (46, 10, 5, (.object "BuriedPairs$Plan"), false), (50, 10, 6, .int, false), (84, 4, 1, (.object "BuriedPairs$Ledger"), true), (98, 4, 5, (.object "BuriedPairs$Layout"), true), (102, 1, 0, (.array .int), true), (115, 1, 3, (.array .int), true), (136, 4, 7, (.object "BuriedPairs$Ledger"), true), (147, 0, 0, (.object "BuriedPairs$Wires"), true), (157, 0, 1, (.object "BuriedPairs$Tone"), true), (200, 4, 8, (.object "BuriedPairs$Ledger"), true), (224, 4, 11, (.object "BuriedPairs$Sheet"), true), (228, 5, 3, .int, false), (255, 0, 4, .int, false), (258, 0, 5, .int, false), (286, 3, 5, .int, false), (292, 4, 0, .int, false), (295, 4, 6, (.object "BuriedPairs$Ledger"), true), (298, 4, 9, (.object "BuriedPairs$Ledger"), true)]
  | 11 => [(9, 11, 1, (.array .byte), true), (13, 11, 6, (.array .int), true), (17, 11, 7, (.array .int), true), (20, 11, 8, (.array .int), true), (23, 11, 9, (.array .int), true), (26, 11, 10, (.array .int), true), (29, 11, 11, (.array .int), true), (32, 11, 12, (.array .int), true), (35, 11, 13, (.array .int), true), (38, 11, 14, (.array .int), true), (41, 11, 15, (.array .int), true), (44, 11, 16, (.array .int), true), (47, 11, 17, (.array .int), true), (50, 11, 18, (.array .int), true), (53, 11, 20, (.array .int), true), (56, 11, 21, (.array .int), true), (59, 11, 22, (.array .int), true), (62, 11, 23, (.array .int), true), (65, 11, 24, (.array .int), true), (68, 11, 25, (.array .int), true), (71, 11, 26, (.array .int), true), (74, 11, 27, (.array .int), true), (77, 11, 28, (.array .int), true), (80, 11, 35, (.array .boolean), true), (84, 11, 36, (.array .long), true), (88, 11, 37, (.array .int), true), (91, 11, 38, (.array .int), true), (94, 11, 39, (.array .int), true), (97, 11, 40, (.array .int), true), (100, 11, 41, (.array .int), true), (103, 11, 42, (.array .int), true), (106, 11, 43, (.array .int), true), (109, 11, 44, (.array .int), true), (112, 11, 45, (.array .int), true), (115, 11, 46, (.array .int), true), (118, 11, 47, (.array .boolean), true), (121, 11, 48, (.array .boolean), true), (124, 11, 49, (.array .int), true), (127, 11, 50, (.array .int), true), (130, 11, 53, (.array .int), true), (133, 11, 54, (.array .boolean), true), (136, 11, 55, (.array .boolean), true), (139, 11, 56, (.array .int), true), (142, 11, 0, .int, false), (146, 11, 2, .int, false), (157, 11, 3, .int, false), (164, 11, 4, .int, false), (178, 11, 5, .int, false), (196, 11, 19, .int, false), (217, 11, 30, .int, false), (220, 11, 29, .int, false), (226, 11, 34, .boolean, false), (230, 11, 31, .int, false), (242, 11, 32, .int, false), (245, 11, 33, .int, false), (337, 11, 51, .int, false), (340, 11, 52, .int, false), (369, 11, 57, .int, false)]
  | _ => []
set_option maxRecDepth 100000 in
theorem pt_fl_0 : ∀ e ∈ pt_fl 0, pm_OF pt_cl pt_Ts tables_1 (pt_cn 0) 0 e.1 e.2.1 e.2.2.1 e.2.2.2.1 e.2.2.2.2 := List.forall_mem_cons.mpr ⟨fk_0_12, List.forall_mem_cons.mpr ⟨fk_0_21, List.forall_mem_cons.mpr ⟨fk_0_25, List.forall_mem_cons.mpr ⟨fk_0_29, List.forall_mem_cons.mpr ⟨fk_0_33, List.forall_mem_cons.mpr ⟨fk_0_37, List.forall_mem_cons.mpr ⟨fk_0_44, List.forall_mem_cons.mpr ⟨fk_0_85, List.forall_mem_cons.mpr ⟨fk_0_101, List.forall_mem_cons.mpr ⟨fk_0_105, List.forall_mem_cons.mpr ⟨fk_0_119, List.forall_mem_cons.mpr ⟨fk_0_134, List.forall_mem_cons.mpr ⟨fk_0_151, fun _ h => absurd h List.not_mem_nil⟩⟩⟩⟩⟩⟩⟩⟩⟩⟩⟩⟩⟩
set_option maxRecDepth 100000 in
theorem pt_fl_1 : ∀ e ∈ pt_fl 1, pm_OF pt_cl pt_Ts tables_1 (pt_cn 1) 1 e.1 e.2.1 e.2.2.1 e.2.2.2.1 e.2.2.2.2 := List.forall_mem_cons.mpr ⟨fk_1_9, List.forall_mem_cons.mpr ⟨fk_1_15, List.forall_mem_cons.mpr ⟨fk_1_18, List.forall_mem_cons.mpr ⟨fk_1_21, fun _ h => absurd h List.not_mem_nil⟩⟩⟩⟩
set_option maxRecDepth 100000 in
theorem pt_fl_2 : ∀ e ∈ pt_fl 2, pm_OF pt_cl pt_Ts tables_1 (pt_cn 2) 2 e.1 e.2.1 e.2.2.1 e.2.2.2.1 e.2.2.2.2 := List.forall_mem_cons.mpr ⟨fk_2_15, List.forall_mem_cons.mpr ⟨fk_2_21, List.forall_mem_cons.mpr ⟨fk_2_25, fun _ h => absurd h List.not_mem_nil⟩⟩⟩
set_option maxRecDepth 100000 in
theorem pt_fl_3 : ∀ e ∈ pt_fl 3, pm_OF pt_cl pt_Ts tables_1 (pt_cn 3) 3 e.1 e.2.1 e.2.2.1 e.2.2.2.1 e.2.2.2.2 := List.forall_mem_cons.mpr ⟨fk_3_9, List.forall_mem_cons.mpr ⟨fk_3_15, List.forall_mem_cons.mpr ⟨fk_3_18, List.forall_mem_cons.mpr ⟨fk_3_21, List.forall_mem_cons.mpr ⟨fk_3_25, List.forall_mem_cons.mpr ⟨fk_3_28, List.forall_mem_cons.mpr ⟨fk_3_51, List.forall_mem_cons.mpr ⟨fk_3_55, fun _ h => absurd h List.not_mem_nil⟩⟩⟩⟩⟩⟩⟩⟩
set_option maxRecDepth 100000 in
theorem pt_fl_4 : ∀ e ∈ pt_fl 4, pm_OF pt_cl pt_Ts tables_1 (pt_cn 4) 4 e.1 e.2.1 e.2.2.1 e.2.2.2.1 e.2.2.2.2 := List.forall_mem_cons.mpr ⟨fk_4_9, List.forall_mem_cons.mpr ⟨fk_4_20, List.forall_mem_cons.mpr ⟨fk_4_24, List.forall_mem_cons.mpr ⟨fk_4_28, List.forall_mem_cons.mpr ⟨fk_4_34, List.forall_mem_cons.mpr ⟨fk_4_38, List.forall_mem_cons.mpr ⟨fk_4_41, List.forall_mem_cons.mpr ⟨fk_4_44, List.forall_mem_cons.mpr ⟨fk_4_47, List.forall_mem_cons.mpr ⟨fk_4_50, List.forall_mem_cons.mpr ⟨fk_4_53, List.forall_mem_cons.mpr ⟨fk_4_59, List.forall_mem_cons.mpr ⟨fk_4_144, fun _ h => absurd h List.not_mem_nil⟩⟩⟩⟩⟩⟩⟩⟩⟩⟩⟩⟩⟩
set_option maxRecDepth 100000 in
theorem pt_fl_5 : ∀ e ∈ pt_fl 5, pm_OF pt_cl pt_Ts tables_1 (pt_cn 5) 5 e.1 e.2.1 e.2.2.1 e.2.2.2.1 e.2.2.2.2 := List.forall_mem_cons.mpr ⟨fk_5_11, List.forall_mem_cons.mpr ⟨fk_5_17, List.forall_mem_cons.mpr ⟨fk_5_20, List.forall_mem_cons.mpr ⟨fk_5_24, List.forall_mem_cons.mpr ⟨fk_5_27, fun _ h => absurd h List.not_mem_nil⟩⟩⟩⟩⟩
set_option maxRecDepth 100000 in
theorem pt_fl_6 : ∀ e ∈ pt_fl 6, pm_OF pt_cl pt_Ts tables_1 (pt_cn 6) 6 e.1 e.2.1 e.2.2.1 e.2.2.2.1 e.2.2.2.2 := List.forall_mem_cons.mpr ⟨fk_6_9, List.forall_mem_cons.mpr ⟨fk_6_15, fun _ h => absurd h List.not_mem_nil⟩⟩
set_option maxRecDepth 100000 in
theorem pt_fl_7 : ∀ e ∈ pt_fl 7, pm_OF pt_cl pt_Ts tables_1 (pt_cn 7) 7 e.1 e.2.1 e.2.2.1 e.2.2.2.1 e.2.2.2.2 := List.forall_mem_cons.mpr ⟨fk_7_9, List.forall_mem_cons.mpr ⟨fk_7_15, List.forall_mem_cons.mpr ⟨fk_7_19, List.forall_mem_cons.mpr ⟨fk_7_58, List.forall_mem_cons.mpr ⟨fk_7_81, List.forall_mem_cons.mpr ⟨fk_7_95, fun _ h => absurd h List.not_mem_nil⟩⟩⟩⟩⟩⟩
set_option maxRecDepth 100000 in
theorem pt_fl_8 : ∀ e ∈ pt_fl 8, pm_OF pt_cl pt_Ts tables_1 (pt_cn 8) 8 e.1 e.2.1 e.2.2.1 e.2.2.2.1 e.2.2.2.2 := List.forall_mem_cons.mpr ⟨fk_8_9, List.forall_mem_cons.mpr ⟨fk_8_15, List.forall_mem_cons.mpr ⟨fk_8_18, List.forall_mem_cons.mpr ⟨fk_8_21, List.forall_mem_cons.mpr ⟨fk_8_24, List.forall_mem_cons.mpr ⟨fk_8_75, List.forall_mem_cons.mpr ⟨fk_8_78, List.forall_mem_cons.mpr ⟨fk_8_81, List.forall_mem_cons.mpr ⟨fk_8_84, List.forall_mem_cons.mpr ⟨fk_8_87, List.forall_mem_cons.mpr ⟨fk_8_93, List.forall_mem_cons.mpr ⟨fk_8_108, fun _ h => absurd h List.not_mem_nil⟩⟩⟩⟩⟩⟩⟩⟩⟩⟩⟩⟩
set_option maxRecDepth 100000 in
theorem pt_fl_9 : ∀ e ∈ pt_fl 9, pm_OF pt_cl pt_Ts tables_1 (pt_cn 9) 9 e.1 e.2.1 e.2.2.1 e.2.2.2.1 e.2.2.2.2 := List.forall_mem_cons.mpr ⟨fk_9_12, List.forall_mem_cons.mpr ⟨fk_9_18, List.forall_mem_cons.mpr ⟨fk_9_22, List.forall_mem_cons.mpr ⟨fk_9_25, List.forall_mem_cons.mpr ⟨fk_9_28, List.forall_mem_cons.mpr ⟨fk_9_31, List.forall_mem_cons.mpr ⟨fk_9_34, List.forall_mem_cons.mpr ⟨fk_9_37, List.forall_mem_cons.mpr ⟨fk_9_40, List.forall_mem_cons.mpr ⟨fk_9_46, List.forall_mem_cons.mpr ⟨fk_9_50, List.forall_mem_cons.mpr ⟨fk_9_53, List.forall_mem_cons.mpr ⟨fk_9_57, List.forall_mem_cons.mpr ⟨fk_9_66, List.forall_mem_cons.mpr ⟨fk_9_80, List.forall_mem_cons.mpr ⟨fk_9_105, List.forall_mem_cons.mpr ⟨fk_9_112, List.forall_mem_cons.mpr ⟨fk_9_126, List.forall_mem_cons.mpr ⟨fk_9_129, List.forall_mem_cons.mpr ⟨fk_9_135, List.forall_mem_cons.mpr ⟨fk_9_165, fun _ h => absurd h List.not_mem_nil⟩⟩⟩⟩⟩⟩⟩⟩⟩⟩⟩⟩⟩⟩⟩⟩⟩⟩⟩⟩⟩
set_option maxRecDepth 100000 in
theorem pt_fl_10 : ∀ e ∈ pt_fl 10, pm_OF pt_cl pt_Ts tables_1 (pt_cn 10) 10 e.1 e.2.1 e.2.2.1 e.2.2.2.1 e.2.2.2.2 := List.forall_mem_cons.mpr ⟨fk_10_12, List.forall_mem_cons.mpr ⟨fk_10_21, List.forall_mem_cons.mpr ⟨fk_10_27, List.forall_mem_cons.mpr ⟨fk_10_34, List.forall_mem_cons.mpr ⟨fk_10_41, List.forall_mem_cons.mpr ⟨fk_10_46, List.forall_mem_cons.mpr ⟨fk_10_50, List.forall_mem_cons.mpr ⟨fk_10_84, List.forall_mem_cons.mpr ⟨fk_10_98, List.forall_mem_cons.mpr ⟨fk_10_102, List.forall_mem_cons.mpr ⟨fk_10_115, List.forall_mem_cons.mpr ⟨fk_10_136, List.forall_mem_cons.mpr ⟨fk_10_147, List.forall_mem_cons.mpr ⟨fk_10_157, List.forall_mem_cons.mpr ⟨fk_10_200, List.forall_mem_cons.mpr ⟨fk_10_224, List.forall_mem_cons.mpr ⟨fk_10_228, List.forall_mem_cons.mpr ⟨fk_10_255, List.forall_mem_cons.mpr ⟨fk_10_258, List.forall_mem_cons.mpr ⟨fk_10_286, List.forall_mem_cons.mpr ⟨fk_10_292, List.forall_mem_cons.mpr ⟨fk_10_295, List.forall_mem_cons.mpr ⟨fk_10_298, fun _ h => absurd h List.not_mem_nil⟩⟩⟩⟩⟩⟩⟩⟩⟩⟩⟩⟩⟩⟩⟩⟩⟩⟩⟩⟩⟩⟩⟩
set_option maxRecDepth 100000 in
theorem pt_fl_11 : ∀ e ∈ pt_fl 11, pm_OF pt_cl pt_Ts tables_1 (pt_cn 11) 11 e.1 e.2.1 e.2.2.1 e.2.2.2.1 e.2.2.2.2 := List.forall_mem_cons.mpr ⟨fk_11_9, List.forall_mem_cons.mpr ⟨fk_11_13, List.forall_mem_cons.mpr ⟨fk_11_17, List.forall_mem_cons.mpr ⟨fk_11_20, List.forall_mem_cons.mpr ⟨fk_11_23, List.forall_mem_cons.mpr ⟨fk_11_26, List.forall_mem_cons.mpr ⟨fk_11_29, List.forall_mem_cons.mpr ⟨fk_11_32, List.forall_mem_cons.mpr ⟨fk_11_35, List.forall_mem_cons.mpr ⟨fk_11_38, List.forall_mem_cons.mpr ⟨fk_11_41, List.forall_mem_cons.mpr ⟨fk_11_44, List.forall_mem_cons.mpr ⟨fk_11_47, List.forall_mem_cons.mpr ⟨fk_11_50, List.forall_mem_cons.mpr ⟨fk_11_53, List.forall_mem_cons.mpr ⟨fk_11_56, List.forall_mem_cons.mpr ⟨fk_11_59, List.forall_mem_cons.mpr ⟨fk_11_62, List.forall_mem_cons.mpr ⟨fk_11_65, List.forall_mem_cons.mpr ⟨fk_11_68, List.forall_mem_cons.mpr ⟨fk_11_71, List.forall_mem_cons.mpr ⟨fk_11_74, List.forall_mem_cons.mpr ⟨fk_11_77, List.forall_mem_cons.mpr ⟨fk_11_80, List.forall_mem_cons.mpr ⟨fk_11_84, List.forall_mem_cons.mpr ⟨fk_11_88, List.forall_mem_cons.mpr ⟨fk_11_91, List.forall_mem_cons.mpr ⟨fk_11_94, List.forall_mem_cons.mpr ⟨fk_11_97, List.forall_mem_cons.mpr ⟨fk_11_100, List.forall_mem_cons.mpr ⟨fk_11_103, List.forall_mem_cons.mpr ⟨fk_11_106, List.forall_mem_cons.mpr ⟨fk_11_109, List.forall_mem_cons.mpr ⟨fk_11_112, List.forall_mem_cons.mpr ⟨fk_11_115, List.forall_mem_cons.mpr ⟨fk_11_118, List.forall_mem_cons.mpr ⟨fk_11_121, List.forall_mem_cons.mpr ⟨fk_11_124, List.forall_mem_cons.mpr ⟨fk_11_127, List.forall_mem_cons.mpr ⟨fk_11_130, List.forall_mem_cons.mpr ⟨fk_11_133, List.forall_mem_cons.mpr ⟨fk_11_136, List.forall_mem_cons.mpr ⟨fk_11_139, List.forall_mem_cons.mpr ⟨fk_11_142, List.forall_mem_cons.mpr ⟨fk_11_146, List.forall_mem_cons.mpr ⟨fk_11_157, List.forall_mem_cons.mpr ⟨fk_11_164, List.forall_mem_cons.mpr ⟨fk_11_178, List.forall_mem_cons.mpr ⟨fk_11_196, List.forall_mem_cons.mpr ⟨fk_11_217, List.forall_mem_cons.mpr ⟨fk_11_220, List.forall_mem_cons.mpr ⟨fk_11_226, List.forall_mem_cons.mpr ⟨fk_11_230, List.forall_mem_cons.mpr ⟨fk_11_242, List.forall_mem_cons.mpr ⟨fk_11_245, List.forall_mem_cons.mpr ⟨fk_11_337, List.forall_mem_cons.mpr ⟨fk_11_340, List.forall_mem_cons.mpr ⟨fk_11_369, fun _ h => absurd h List.not_mem_nil⟩⟩⟩⟩⟩⟩⟩⟩⟩⟩⟩⟩⟩⟩⟩⟩⟩⟩⟩⟩⟩⟩⟩⟩⟩⟩⟩⟩⟩⟩⟩⟩⟩⟩⟩⟩⟩⟩⟩⟩⟩⟩⟩⟩⟩⟩⟩⟩⟩⟩⟩⟩⟩⟩⟩⟩⟩⟩
theorem pt_fl_ok (co : Nat) : ∀ e ∈ pt_fl co, pm_OF pt_cl pt_Ts tables_1 (pt_cn co) co e.1 e.2.1 e.2.2.1 e.2.2.2.1 e.2.2.2.2 := by
  unfold pt_fl
  split
  · exact pt_fl_0
  · exact pt_fl_1
  · exact pt_fl_2
  · exact pt_fl_3
  · exact pt_fl_4
  · exact pt_fl_5
  · exact pt_fl_6
  · exact pt_fl_7
  · exact pt_fl_8
  · exact pt_fl_9
  · exact pt_fl_10
  · exact pt_fl_11
  · exact fun _ h => absurd h List.not_mem_nil
def pt_nl (co : Nat) : List (Nat × Nat × List Value) := match co with
  | 0 => [(9, 9, [.null, .null, .null, .null, .null, .null, .null, .null, .null, .null, .null, .int 0, .int 0]), (18, 8, [.null, .null, .null, .null, .int 0])]
  | 4 => [(15, 2, [.null, .int 0, .int 0]), (31, 1, [.null, .null, .null, .null]), (56, 5, [.null, .null, .int 0, .int 0, .int 0])]
  | 9 => [(9, 1, [.null, .null, .null, .null]), (43, 4, [.int 0, .null, .null, .null, .null, .null, .null, .null, .null, .null, .null, .null])]
  | 10 => [(9, 6, [.null, .int 0]), (16, 7, [.null, .int 0, .int 0]), (25, 4, [.int 0, .null, .null, .null, .null, .null, .null, .null, .null, .null, .null, .null]), (31, 0, [.null, .null, .null, .null, .int 0, .int 0]), (38, 3, [.null, .null, .null, .int 0, .int 0, .int 0])]
  | 12 => [(8, 10, [.null, .null, .null, .null, .null, .null, .int 0]), (16, 11, [.int 0, .null, .int 0, .int 0, .int 0, .int 0, .null, .null, .null, .null, .null, .null, .null, .null, .null, .null, .null, .null, .null, .int 0, .null, .null, .null, .null, .null, .null, .null, .null, .null, .int 0, .int 0, .int 0, .int 0, .int 0, .int 0, .null, .null, .null, .null, .null, .null, .null, .null, .null, .null, .null, .null, .null, .null, .null, .null, .int 0, .int 0, .null, .null, .null, .null, .int 0])]
  | _ => []
set_option maxRecDepth 100000 in
theorem pt_nl_0 : ∀ e ∈ pt_nl 0, pm_ON pt_cl pt_Ts (pt_cn 0) e.1 e.2.1 e.2.2 := List.forall_mem_cons.mpr ⟨⟨_, _, _, _, pt_c9, rfl, by decide +kernel, pt_w_ok (i := 68) (by decide +kernel), pt_w_ok (i := 69) (by decide +kernel), pt_w_ok (i := 5) (by decide +kernel)⟩, List.forall_mem_cons.mpr ⟨⟨_, _, _, _, pt_c8, rfl, by decide +kernel, pt_w_ok (i := 264) (by decide +kernel), pt_w_ok (i := 265) (by decide +kernel), pt_w_ok (i := 12) (by decide +kernel)⟩, fun _ h => absurd h List.not_mem_nil⟩⟩
set_option maxRecDepth 100000 in
theorem pt_nl_4 : ∀ e ∈ pt_nl 4, pm_ON pt_cl pt_Ts (pt_cn 4) e.1 e.2.1 e.2.2 := List.forall_mem_cons.mpr ⟨⟨_, _, _, _, pt_c2, rfl, by decide +kernel, pt_w_ok (i := 109) (by decide +kernel), pt_w_ok (i := 110) (by decide +kernel), pt_w_ok (i := 9) (by decide +kernel)⟩, List.forall_mem_cons.mpr ⟨⟨_, _, _, _, pt_c1, rfl, by decide +kernel, pt_w_ok (i := 128) (by decide +kernel), pt_w_ok (i := 75) (by decide +kernel), pt_w_ok (i := 6) (by decide +kernel)⟩, List.forall_mem_cons.mpr ⟨⟨_, _, _, _, pt_c5, rfl, by decide +kernel, pt_w_ok (i := 130) (by decide +kernel), pt_w_ok (i := 131) (by decide +kernel), pt_w_ok (i := 11) (by decide +kernel)⟩, fun _ h => absurd h List.not_mem_nil⟩⟩⟩
set_option maxRecDepth 100000 in
theorem pt_nl_9 : ∀ e ∈ pt_nl 9, pm_ON pt_cl pt_Ts (pt_cn 9) e.1 e.2.1 e.2.2 := List.forall_mem_cons.mpr ⟨⟨_, _, _, _, pt_c1, rfl, by decide +kernel, pt_w_ok (i := 74) (by decide +kernel), pt_w_ok (i := 75) (by decide +kernel), pt_w_ok (i := 6) (by decide +kernel)⟩, List.forall_mem_cons.mpr ⟨⟨_, _, _, _, pt_c4, rfl, by decide +kernel, pt_w_ok (i := 103) (by decide +kernel), pt_w_ok (i := 104) (by decide +kernel), pt_w_ok (i := 8) (by decide +kernel)⟩, fun _ h => absurd h List.not_mem_nil⟩⟩
set_option maxRecDepth 100000 in
theorem pt_nl_10 : ∀ e ∈ pt_nl 10, pm_ON pt_cl pt_Ts (pt_cn 10) e.1 e.2.1 e.2.2 := List.forall_mem_cons.mpr ⟨⟨_, _, _, _, pt_c6, rfl, by decide +kernel, pt_w_ok (i := 30) (by decide +kernel), pt_w_ok (i := 31) (by decide +kernel), pt_w_ok (i := 2) (by decide +kernel)⟩, List.forall_mem_cons.mpr ⟨⟨_, _, _, _, pt_c7, rfl, by decide +kernel, pt_w_ok (i := 44) (by decide +kernel), pt_w_ok (i := 45) (by decide +kernel), pt_w_ok (i := 3) (by decide +kernel)⟩, List.forall_mem_cons.mpr ⟨⟨_, _, _, _, pt_c4, rfl, by decide +kernel, pt_w_ok (i := 60) (by decide +kernel), pt_w_ok (i := 104) (by decide +kernel), pt_w_ok (i := 8) (by decide +kernel)⟩, List.forall_mem_cons.mpr ⟨⟨_, _, _, _, pt_c0, rfl, by decide +kernel, pt_w_ok (i := 62) (by decide +kernel), pt_w_ok (i := 63) (by decide +kernel), pt_w_ok (i := 4) (by decide +kernel)⟩, List.forall_mem_cons.mpr ⟨⟨_, _, _, _, pt_c3, rfl, by decide +kernel, pt_w_ok (i := 310) (by decide +kernel), pt_w_ok (i := 311) (by decide +kernel), pt_w_ok (i := 13) (by decide +kernel)⟩, fun _ h => absurd h List.not_mem_nil⟩⟩⟩⟩⟩
set_option maxRecDepth 100000 in
theorem pt_nl_12 : ∀ e ∈ pt_nl 12, pm_ON pt_cl pt_Ts (pt_cn 12) e.1 e.2.1 e.2.2 := List.forall_mem_cons.mpr ⟨⟨_, _, _, _, pt_c10, rfl, by decide +kernel, pt_w_ok (i := 22) (by decide +kernel), pt_w_ok (i := 23) (by decide +kernel), pt_w_ok (i := 1) (by decide +kernel)⟩, List.forall_mem_cons.mpr ⟨⟨_, _, _, _, pt_c11, rfl, by decide +kernel, pt_w_ok (i := 1103) (by decide +kernel), pt_w_ok (i := 1104) (by decide +kernel), pt_w_ok (i := 14) (by decide +kernel)⟩, fun _ h => absurd h List.not_mem_nil⟩⟩
theorem pt_nl_ok (co : Nat) : ∀ e ∈ pt_nl co, pm_ON pt_cl pt_Ts (pt_cn co) e.1 e.2.1 e.2.2 := by
  unfold pt_nl
  split
  · exact pt_nl_0
  · exact pt_nl_4
  · exact pt_nl_9
  · exact pt_nl_10
  · exact pt_nl_12
  · exact fun _ h => absurd h List.not_mem_nil
def pt_ql (co : Nat) : List (Nat × Nat) := match co with
  | 5 => [(9, 5)]
  | 10 => [(25, 4)]
  | _ => []
set_option maxRecDepth 100000 in
theorem pt_ql_5 : ∀ e ∈ pt_ql 5, pm_OQb pt_Ts tables_1 (pt_cn 5) e.1 e.2 := List.forall_mem_cons.mpr ⟨Or.inr ⟨rfl, pt_w_ok (i := 136) (by decide +kernel), pt_n_ok (i := 137) (by decide +kernel)⟩, fun _ h => absurd h List.not_mem_nil⟩
set_option maxRecDepth 100000 in
theorem pt_ql_10 : ∀ e ∈ pt_ql 10, pm_OQb pt_Ts tables_1 (pt_cn 10) e.1 e.2 := List.forall_mem_cons.mpr ⟨Or.inl ⟨rfl, pt_w_ok (i := 60) (by decide +kernel), pt_n_ok (i := 61) (by decide +kernel)⟩, fun _ h => absurd h List.not_mem_nil⟩
theorem pt_ql_ok (co : Nat) : ∀ e ∈ pt_ql co, pm_OQb pt_Ts tables_1 (pt_cn co) e.1 e.2 := by
  unfold pt_ql
  split
  · exact pt_ql_5
  · exact pt_ql_10
  · exact fun _ h => absurd h List.not_mem_nil
def pt_kl (co : Nat) : List (Nat × (Int32 ⊕ Int64)) := match co with
  | 10 => [(174, .inr (-1))]
  | 11 => [(308, .inr (-1))]
  | 13 => [(265, .inl (1431655765)), (266, .inl (858993459)), (267, .inl (252645135))]
  | 14 => [(314, .inr (6148914691236517205)), (316, .inr (3689348814741910323)), (318, .inr (1085102592571150095))]
  | _ => []
set_option maxRecDepth 100000 in
theorem pt_kl_10 : ∀ e ∈ pt_kl 10, pm_OK1 (pt_cn 10) e.1 pt_Ts e.2 := List.forall_mem_cons.mpr ⟨pt_w_ok (i := 720) (by decide +kernel), fun _ h => absurd h List.not_mem_nil⟩
set_option maxRecDepth 100000 in
theorem pt_kl_11 : ∀ e ∈ pt_kl 11, pm_OK1 (pt_cn 11) e.1 pt_Ts e.2 := List.forall_mem_cons.mpr ⟨pt_w_ok (i := 1493) (by decide +kernel), fun _ h => absurd h List.not_mem_nil⟩
set_option maxRecDepth 100000 in
theorem pt_kl_13 : ∀ e ∈ pt_kl 13, pm_OK1 (pt_cn 13) e.1 pt_Ts e.2 := List.forall_mem_cons.mpr ⟨pt_w_ok (i := 893) (by decide +kernel), List.forall_mem_cons.mpr ⟨pt_w_ok (i := 894) (by decide +kernel), List.forall_mem_cons.mpr ⟨pt_w_ok (i := 895) (by decide +kernel), fun _ h => absurd h List.not_mem_nil⟩⟩⟩
set_option maxRecDepth 100000 in
theorem pt_kl_14 : ∀ e ∈ pt_kl 14, pm_OK1 (pt_cn 14) e.1 pt_Ts e.2 := List.forall_mem_cons.mpr ⟨pt_w_ok (i := 749) (by decide +kernel), List.forall_mem_cons.mpr ⟨pt_w_ok (i := 750) (by decide +kernel), List.forall_mem_cons.mpr ⟨pt_w_ok (i := 751) (by decide +kernel), fun _ h => absurd h List.not_mem_nil⟩⟩⟩
theorem pt_kl_ok (co : Nat) : ∀ e ∈ pt_kl co, pm_OK1 (pt_cn co) e.1 pt_Ts e.2 := by
  unfold pt_kl
  split
  · exact pt_kl_10
  · exact pt_kl_11
  · exact pt_kl_13
  · exact pt_kl_14
  · exact fun _ h => absurd h List.not_mem_nil
/-- a table's entry -/
def pt_lk {α : Type} (l : List (Nat × α)) (k : Nat) : Option α := (l.find? (fun e => e.1 == k)).map (fun e => e.2)
theorem pt_lk_ok {α : Type} {l : List (Nat × α)} {k : Nat} {a : α} (h : pt_lk l k = some a) : (k, a) ∈ l := by
  unfold pt_lk at h
  cases hf : l.find? (fun e => e.1 == k) with
  | none => rw [hf] at h; cases h
  | some q =>
    rw [hf] at h
    have h1 := List.mem_of_find?_eq_some hf
    have h2 := List.find?_some hf
    simp only [beq_iff_eq] at h2
    cases h
    rw [← h2]
    exact h1
/-- the claim's program -/
def pG : pm_G := (fun co k => pt_lk (pt_fl co) k, fun co k => pt_lk (pt_ml co) k, fun co k => pt_lk (pt_nl co) k, fun co k => pt_lk (pt_ql co) k, fun co k => pt_lk (pt_kl co) k)
theorem pG_ok : pm_OKb pG pt_cl pt_Ts tables_1 pt_cn := by
  refine ⟨fun w hw => (List.mem_filter.mp hw).2, ⟨pt_w_ok (i := 43) (by decide +kernel), pt_w_ok (i := 309) (by decide +kernel), pt_w_ok (i := 1284) (by decide +kernel), pt_w_ok (i := 1285) (by decide +kernel)⟩, ⟨_, _, rfl⟩, ?_, ?_, ?_, ?_, ?_⟩
  · intro co idx ci k ty fin h
    exact pt_fl_ok co (idx, ci, k, ty, fin) (pt_lk_ok h)
  · intro co idx mj q h
    exact pt_ml_ok co (idx, mj, q) (pt_lk_ok h)
  · intro co idx ci fs h
    exact pt_nl_ok co (idx, ci, fs) (pt_lk_ok h)
  · intro co idx t h
    exact pt_ql_ok co (idx, t) (pt_lk_ok h)
  · intro co idx v h
    exact pt_kl_ok co (idx, v) (pt_lk_ok h)
