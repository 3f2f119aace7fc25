/-! ===== the class's methods that reach fixed cells alone, over contents (written by wip/whole/gen/cgen.py) ===== -/
def vsI (s : mst) (k n : Nat) (i x : Int32) : mst := (up1 s.1 k (vset n (s.1 k) i x), s.2)
section CRD
variable {h0 : Nat → pm_C} {B : Nat} {D : Nat → pd} {hi z N : Nat} {s : mst}
theorem rcm_0 (h : FX D hi) : rcv (mkM h0 B D hi z s) (B + 0) 10 = true := rc_0 h
theorem rdm_0_0 (h : FX D hi) : oR (mkM h0 B D hi z s) (B + 0) 10 0 = some (some (B + 1)) := rd_0_0 h
theorem rdm_0_1 (h : FX D hi) : oR (mkM h0 B D hi z s) (B + 0) 10 1 = some (some (B + 3)) := rd_0_1 h
theorem rdm_0_2 (h : FX D hi) : oR (mkM h0 B D hi z s) (B + 0) 10 2 = some (some (B + 4)) := rd_0_2 h
theorem rdm_0_3 (h : FX D hi) : oR (mkM h0 B D hi z s) (B + 0) 10 3 = some (some (B + 5)) := rd_0_3 h
theorem rdm_0_4 (h : FX D hi) : oR (mkM h0 B D hi z s) (B + 0) 10 4 = some (some (B + 54)) := rd_0_4 h
theorem rdm_0_6 (h : FX D hi) : oI (mkM h0 B D hi z s) (B + 0) 10 6 = some (s.1 0 6) := rd_0_6 h
theorem wrm_0_6 (h : FX D hi) {w : Int32} : wF (mkM h0 B D hi z s) (B + 0) 10 6 .int (.int w) = some (mkM h0 B D hi z (wrI s 0 6 w)) := wr_0_6 h
theorem rcm_1 (h : FX D hi) : rcv (mkM h0 B D hi z s) (B + 1) 6 = true := rc_1 h
theorem rdm_1_0 (h : FX D hi) : oR (mkM h0 B D hi z s) (B + 1) 6 0 = some (some (B + 2)) := rd_1_0 h
theorem rdm_1_1 (h : FX D hi) : oI (mkM h0 B D hi z s) (B + 1) 6 1 = some (s.1 1 1) := rd_1_1 h
theorem wrm_1_1 (h : FX D hi) {w : Int32} : wF (mkM h0 B D hi z s) (B + 1) 6 1 .int (.int w) = some (mkM h0 B D hi z (wrI s 1 1 w)) := wr_1_1 h
theorem anm_2 (h : FX D hi) : aNS (mkM h0 B D hi z s) (B + 2) = some 300 := an_2 h
theorem vam_2 (h : FX D hi) {i : Int32} : F_BP_valueAt N (mkM h0 B D hi z s) (B + 2) i = some (vat 300 (s.1 2) i, mkM h0 B D hi z s) := va_2 h
theorem vsm_2 (h : FX D hi) {i x : Int32} : F_BP_setAt N (mkM h0 B D hi z s) (B + 2) i x = some (mkM h0 B D hi z (vsI s 2 300 i x)) := vs_2 h
theorem aim_2 (h : FX D hi) {i : Int32} : aI [0, 6] (mkM h0 B D hi z s) (B + 2) i = rdA s 2 300 i := by
  unfold rdA
  by_cases hi2 : pm_in i 300 = true
  · rw [if_pos hi2]; exact ai_2 h hi2
  · rw [if_neg hi2]; exact aI_out (show ps_h (mkM h0 B D hi z s) (B + 2) = .inl (0, 300, .inl (s.1 2)) from (mk_cell (fx_lt h (by decide)) (fx_2 h)).1) hi2
theorem sim_2 (h : FX D hi) {i x : Int32} : sI [0] (mkM h0 B D hi z s) (B + 2) i x = (stA 0 s 2 300 i x).map (mkM h0 B D hi z) := by
  unfold stA
  by_cases hi2 : pm_in i 300 = true
  · rw [if_pos hi2]; exact si_2 h hi2
  · rw [if_neg hi2]; exact sI_out (show ps_h (mkM h0 B D hi z s) (B + 2) = .inl (0, 300, .inl (s.1 2)) from (mk_cell (fx_lt h (by decide)) (fx_2 h)).1) hi2
theorem rcm_3 (h : FX D hi) : rcv (mkM h0 B D hi z s) (B + 3) 7 = true := rc_3 h
theorem rdm_3_0 (h : FX D hi) : oR (mkM h0 B D hi z s) (B + 3) 7 0 = some (some (B + 1)) := rd_3_0 h
theorem rdm_3_1 (h : FX D hi) : oI (mkM h0 B D hi z s) (B + 3) 7 1 = some (s.1 3 1) := rd_3_1 h
theorem wrm_3_1 (h : FX D hi) {w : Int32} : wF (mkM h0 B D hi z s) (B + 3) 7 1 .int (.int w) = some (mkM h0 B D hi z (wrI s 3 1 w)) := wr_3_1 h
theorem rdm_3_2 (h : FX D hi) : oI (mkM h0 B D hi z s) (B + 3) 7 2 = some (s.1 3 2) := rd_3_2 h
theorem wrm_3_2 (h : FX D hi) {w : Int32} : wF (mkM h0 B D hi z s) (B + 3) 7 2 .int (.int w) = some (mkM h0 B D hi z (wrI s 3 2 w)) := wr_3_2 h
theorem rcm_5 (h : FX D hi) : rcv (mkM h0 B D hi z s) (B + 5) 0 = true := rc_5 h
theorem rdm_5_0 (h : FX D hi) : oR (mkM h0 B D hi z s) (B + 5) 0 0 = some (some (B + 6)) := rd_5_0 h
theorem rdm_5_1 (h : FX D hi) : oR (mkM h0 B D hi z s) (B + 5) 0 1 = some (some (B + 47)) := rd_5_1 h
theorem rdm_5_2 (h : FX D hi) : oR (mkM h0 B D hi z s) (B + 5) 0 2 = some (some (B + 52)) := rd_5_2 h
theorem rdm_5_3 (h : FX D hi) : oR (mkM h0 B D hi z s) (B + 5) 0 3 = some (some (B + 53)) := rd_5_3 h
theorem rdm_5_4 (h : FX D hi) : oI (mkM h0 B D hi z s) (B + 5) 0 4 = some (s.1 5 4) := rd_5_4 h
theorem wrm_5_4 (h : FX D hi) {w : Int32} : wF (mkM h0 B D hi z s) (B + 5) 0 4 .int (.int w) = some (mkM h0 B D hi z (wrI s 5 4 w)) := wr_5_4 h
theorem rdm_5_5 (h : FX D hi) : oI (mkM h0 B D hi z s) (B + 5) 0 5 = some (s.1 5 5) := rd_5_5 h
theorem wrm_5_5 (h : FX D hi) {w : Int32} : wF (mkM h0 B D hi z s) (B + 5) 0 5 .int (.int w) = some (mkM h0 B D hi z (wrI s 5 5 w)) := wr_5_5 h
theorem rcm_6 (h : FX D hi) : rcv (mkM h0 B D hi z s) (B + 6) 9 = true := rc_6 h
theorem rdm_6_0 (h : FX D hi) : oR (mkM h0 B D hi z s) (B + 6) 9 0 = some (some (B + 7)) := rd_6_0 h
theorem rdm_6_1 (h : FX D hi) : oR (mkM h0 B D hi z s) (B + 6) 9 1 = some (some (B + 12)) := rd_6_1 h
theorem rdm_6_2 (h : FX D hi) : oR (mkM h0 B D hi z s) (B + 6) 9 2 = some (some (B + 13)) := rd_6_2 h
theorem rdm_6_3 (h : FX D hi) : oR (mkM h0 B D hi z s) (B + 6) 9 3 = some (some (B + 14)) := rd_6_3 h
theorem rdm_6_4 (h : FX D hi) : oR (mkM h0 B D hi z s) (B + 6) 9 4 = some (some (B + 15)) := rd_6_4 h
theorem rdm_6_5 (h : FX D hi) : oR (mkM h0 B D hi z s) (B + 6) 9 5 = some (some (B + 16)) := rd_6_5 h
theorem rdm_6_6 (h : FX D hi) : oR (mkM h0 B D hi z s) (B + 6) 9 6 = some (some (B + 17)) := rd_6_6 h
theorem rdm_6_7 (h : FX D hi) : oR (mkM h0 B D hi z s) (B + 6) 9 7 = some (some (B + 18)) := rd_6_7 h
theorem rdm_6_8 (h : FX D hi) : oR (mkM h0 B D hi z s) (B + 6) 9 8 = some (some (B + 19)) := rd_6_8 h
theorem rdm_6_11 (h : FX D hi) : oI (mkM h0 B D hi z s) (B + 6) 9 11 = some (s.1 6 11) := rd_6_11 h
theorem wrm_6_11 (h : FX D hi) {w : Int32} : wF (mkM h0 B D hi z s) (B + 6) 9 11 .int (.int w) = some (mkM h0 B D hi z (wrI s 6 11 w)) := wr_6_11 h
theorem rdm_6_12 (h : FX D hi) : oI (mkM h0 B D hi z s) (B + 6) 9 12 = some (s.1 6 12) := rd_6_12 h
theorem wrm_6_12 (h : FX D hi) {w : Int32} : wF (mkM h0 B D hi z s) (B + 6) 9 12 .int (.int w) = some (mkM h0 B D hi z (wrI s 6 12 w)) := wr_6_12 h
theorem rcm_7 (h : FX D hi) : rcv (mkM h0 B D hi z s) (B + 7) 1 = true := rc_7 h
theorem rdm_7_0 (h : FX D hi) : oR (mkM h0 B D hi z s) (B + 7) 1 0 = some (some (B + 8)) := rd_7_0 h
theorem rdm_7_1 (h : FX D hi) : oR (mkM h0 B D hi z s) (B + 7) 1 1 = some (some (B + 9)) := rd_7_1 h
theorem rdm_7_2 (h : FX D hi) : oR (mkM h0 B D hi z s) (B + 7) 1 2 = some (some (B + 10)) := rd_7_2 h
theorem rdm_7_3 (h : FX D hi) : oR (mkM h0 B D hi z s) (B + 7) 1 3 = some (some (B + 11)) := rd_7_3 h
theorem anm_8 (h : FX D hi) : aNS (mkM h0 B D hi z s) (B + 8) = some 56 := an_8 h
theorem vam_8 (h : FX D hi) {i : Int32} : F_BP_valueAt N (mkM h0 B D hi z s) (B + 8) i = some (vat 56 (s.1 8) i, mkM h0 B D hi z s) := va_8 h
theorem vsm_8 (h : FX D hi) {i x : Int32} : F_BP_setAt N (mkM h0 B D hi z s) (B + 8) i x = some (mkM h0 B D hi z (vsI s 8 56 i x)) := vs_8 h
theorem aim_8 (h : FX D hi) {i : Int32} : aI [0, 6] (mkM h0 B D hi z s) (B + 8) i = rdA s 8 56 i := by
  unfold rdA
  by_cases hi2 : pm_in i 56 = true
  · rw [if_pos hi2]; exact ai_8 h hi2
  · rw [if_neg hi2]; exact aI_out (show ps_h (mkM h0 B D hi z s) (B + 8) = .inl (0, 56, .inl (s.1 8)) from (mk_cell (fx_lt h (by decide)) (fx_8 h)).1) hi2
theorem sim_8 (h : FX D hi) {i x : Int32} : sI [0] (mkM h0 B D hi z s) (B + 8) i x = (stA 0 s 8 56 i x).map (mkM h0 B D hi z) := by
  unfold stA
  by_cases hi2 : pm_in i 56 = true
  · rw [if_pos hi2]; exact si_8 h hi2
  · rw [if_neg hi2]; exact sI_out (show ps_h (mkM h0 B D hi z s) (B + 8) = .inl (0, 56, .inl (s.1 8)) from (mk_cell (fx_lt h (by decide)) (fx_8 h)).1) hi2
theorem anm_9 (h : FX D hi) : aNS (mkM h0 B D hi z s) (B + 9) = some 56 := an_9 h
theorem vam_9 (h : FX D hi) {i : Int32} : F_BP_valueAt N (mkM h0 B D hi z s) (B + 9) i = some (vat 56 (s.1 9) i, mkM h0 B D hi z s) := va_9 h
theorem vsm_9 (h : FX D hi) {i x : Int32} : F_BP_setAt N (mkM h0 B D hi z s) (B + 9) i x = some (mkM h0 B D hi z (vsI s 9 56 i x)) := vs_9 h
theorem aim_9 (h : FX D hi) {i : Int32} : aI [0, 6] (mkM h0 B D hi z s) (B + 9) i = rdA s 9 56 i := by
  unfold rdA
  by_cases hi2 : pm_in i 56 = true
  · rw [if_pos hi2]; exact ai_9 h hi2
  · rw [if_neg hi2]; exact aI_out (show ps_h (mkM h0 B D hi z s) (B + 9) = .inl (0, 56, .inl (s.1 9)) from (mk_cell (fx_lt h (by decide)) (fx_9 h)).1) hi2
theorem sim_9 (h : FX D hi) {i x : Int32} : sI [0] (mkM h0 B D hi z s) (B + 9) i x = (stA 0 s 9 56 i x).map (mkM h0 B D hi z) := by
  unfold stA
  by_cases hi2 : pm_in i 56 = true
  · rw [if_pos hi2]; exact si_9 h hi2
  · rw [if_neg hi2]; exact sI_out (show ps_h (mkM h0 B D hi z s) (B + 9) = .inl (0, 56, .inl (s.1 9)) from (mk_cell (fx_lt h (by decide)) (fx_9 h)).1) hi2
theorem anm_10 (h : FX D hi) : aNS (mkM h0 B D hi z s) (B + 10) = some 56 := an_10 h
theorem vam_10 (h : FX D hi) {i : Int32} : F_BP_valueAt N (mkM h0 B D hi z s) (B + 10) i = some (vat 56 (s.1 10) i, mkM h0 B D hi z s) := va_10 h
theorem vsm_10 (h : FX D hi) {i x : Int32} : F_BP_setAt N (mkM h0 B D hi z s) (B + 10) i x = some (mkM h0 B D hi z (vsI s 10 56 i x)) := vs_10 h
theorem aim_10 (h : FX D hi) {i : Int32} : aI [0, 6] (mkM h0 B D hi z s) (B + 10) i = rdA s 10 56 i := by
  unfold rdA
  by_cases hi2 : pm_in i 56 = true
  · rw [if_pos hi2]; exact ai_10 h hi2
  · rw [if_neg hi2]; exact aI_out (show ps_h (mkM h0 B D hi z s) (B + 10) = .inl (0, 56, .inl (s.1 10)) from (mk_cell (fx_lt h (by decide)) (fx_10 h)).1) hi2
theorem sim_10 (h : FX D hi) {i x : Int32} : sI [0] (mkM h0 B D hi z s) (B + 10) i x = (stA 0 s 10 56 i x).map (mkM h0 B D hi z) := by
  unfold stA
  by_cases hi2 : pm_in i 56 = true
  · rw [if_pos hi2]; exact si_10 h hi2
  · rw [if_neg hi2]; exact sI_out (show ps_h (mkM h0 B D hi z s) (B + 10) = .inl (0, 56, .inl (s.1 10)) from (mk_cell (fx_lt h (by decide)) (fx_10 h)).1) hi2
theorem anm_11 (h : FX D hi) : aNS (mkM h0 B D hi z s) (B + 11) = some 10 := an_11 h
theorem vam_11 (h : FX D hi) {i : Int32} : F_BP_valueAt N (mkM h0 B D hi z s) (B + 11) i = some (vat 10 (s.1 11) i, mkM h0 B D hi z s) := va_11 h
theorem vsm_11 (h : FX D hi) {i x : Int32} : F_BP_setAt N (mkM h0 B D hi z s) (B + 11) i x = some (mkM h0 B D hi z (vsI s 11 10 i x)) := vs_11 h
theorem aim_11 (h : FX D hi) {i : Int32} : aI [0, 6] (mkM h0 B D hi z s) (B + 11) i = rdA s 11 10 i := by
  unfold rdA
  by_cases hi2 : pm_in i 10 = true
  · rw [if_pos hi2]; exact ai_11 h hi2
  · rw [if_neg hi2]; exact aI_out (show ps_h (mkM h0 B D hi z s) (B + 11) = .inl (0, 10, .inl (s.1 11)) from (mk_cell (fx_lt h (by decide)) (fx_11 h)).1) hi2
theorem sim_11 (h : FX D hi) {i x : Int32} : sI [0] (mkM h0 B D hi z s) (B + 11) i x = (stA 0 s 11 10 i x).map (mkM h0 B D hi z) := by
  unfold stA
  by_cases hi2 : pm_in i 10 = true
  · rw [if_pos hi2]; exact si_11 h hi2
  · rw [if_neg hi2]; exact sI_out (show ps_h (mkM h0 B D hi z s) (B + 11) = .inl (0, 10, .inl (s.1 11)) from (mk_cell (fx_lt h (by decide)) (fx_11 h)).1) hi2
theorem anm_12 (h : FX D hi) : aNS (mkM h0 B D hi z s) (B + 12) = some 56 := an_12 h
theorem vam_12 (h : FX D hi) {i : Int32} : F_BP_valueAt N (mkM h0 B D hi z s) (B + 12) i = some (vat 56 (s.1 12) i, mkM h0 B D hi z s) := va_12 h
theorem vsm_12 (h : FX D hi) {i x : Int32} : F_BP_setAt N (mkM h0 B D hi z s) (B + 12) i x = some (mkM h0 B D hi z (vsI s 12 56 i x)) := vs_12 h
theorem aim_12 (h : FX D hi) {i : Int32} : aI [0, 6] (mkM h0 B D hi z s) (B + 12) i = rdA s 12 56 i := by
  unfold rdA
  by_cases hi2 : pm_in i 56 = true
  · rw [if_pos hi2]; exact ai_12 h hi2
  · rw [if_neg hi2]; exact aI_out (show ps_h (mkM h0 B D hi z s) (B + 12) = .inl (0, 56, .inl (s.1 12)) from (mk_cell (fx_lt h (by decide)) (fx_12 h)).1) hi2
theorem sim_12 (h : FX D hi) {i x : Int32} : sI [0] (mkM h0 B D hi z s) (B + 12) i x = (stA 0 s 12 56 i x).map (mkM h0 B D hi z) := by
  unfold stA
  by_cases hi2 : pm_in i 56 = true
  · rw [if_pos hi2]; exact si_12 h hi2
  · rw [if_neg hi2]; exact sI_out (show ps_h (mkM h0 B D hi z s) (B + 12) = .inl (0, 56, .inl (s.1 12)) from (mk_cell (fx_lt h (by decide)) (fx_12 h)).1) hi2
theorem anm_13 (h : FX D hi) : aNS (mkM h0 B D hi z s) (B + 13) = some 56 := an_13 h
theorem vam_13 (h : FX D hi) {i : Int32} : F_BP_valueAt N (mkM h0 B D hi z s) (B + 13) i = some (vat 56 (s.1 13) i, mkM h0 B D hi z s) := va_13 h
theorem vsm_13 (h : FX D hi) {i x : Int32} : F_BP_setAt N (mkM h0 B D hi z s) (B + 13) i x = some (mkM h0 B D hi z (vsI s 13 56 i x)) := vs_13 h
theorem aim_13 (h : FX D hi) {i : Int32} : aI [0, 6] (mkM h0 B D hi z s) (B + 13) i = rdA s 13 56 i := by
  unfold rdA
  by_cases hi2 : pm_in i 56 = true
  · rw [if_pos hi2]; exact ai_13 h hi2
  · rw [if_neg hi2]; exact aI_out (show ps_h (mkM h0 B D hi z s) (B + 13) = .inl (0, 56, .inl (s.1 13)) from (mk_cell (fx_lt h (by decide)) (fx_13 h)).1) hi2
theorem sim_13 (h : FX D hi) {i x : Int32} : sI [0] (mkM h0 B D hi z s) (B + 13) i x = (stA 0 s 13 56 i x).map (mkM h0 B D hi z) := by
  unfold stA
  by_cases hi2 : pm_in i 56 = true
  · rw [if_pos hi2]; exact si_13 h hi2
  · rw [if_neg hi2]; exact sI_out (show ps_h (mkM h0 B D hi z s) (B + 13) = .inl (0, 56, .inl (s.1 13)) from (mk_cell (fx_lt h (by decide)) (fx_13 h)).1) hi2
theorem anm_14 (h : FX D hi) : aNS (mkM h0 B D hi z s) (B + 14) = some 56 := an_14 h
theorem vam_14 (h : FX D hi) {i : Int32} : F_BP_valueAt N (mkM h0 B D hi z s) (B + 14) i = some (vat 56 (s.1 14) i, mkM h0 B D hi z s) := va_14 h
theorem vsm_14 (h : FX D hi) {i x : Int32} : F_BP_setAt N (mkM h0 B D hi z s) (B + 14) i x = some (mkM h0 B D hi z (vsI s 14 56 i x)) := vs_14 h
theorem aim_14 (h : FX D hi) {i : Int32} : aI [0, 6] (mkM h0 B D hi z s) (B + 14) i = rdA s 14 56 i := by
  unfold rdA
  by_cases hi2 : pm_in i 56 = true
  · rw [if_pos hi2]; exact ai_14 h hi2
  · rw [if_neg hi2]; exact aI_out (show ps_h (mkM h0 B D hi z s) (B + 14) = .inl (0, 56, .inl (s.1 14)) from (mk_cell (fx_lt h (by decide)) (fx_14 h)).1) hi2
theorem sim_14 (h : FX D hi) {i x : Int32} : sI [0] (mkM h0 B D hi z s) (B + 14) i x = (stA 0 s 14 56 i x).map (mkM h0 B D hi z) := by
  unfold stA
  by_cases hi2 : pm_in i 56 = true
  · rw [if_pos hi2]; exact si_14 h hi2
  · rw [if_neg hi2]; exact sI_out (show ps_h (mkM h0 B D hi z s) (B + 14) = .inl (0, 56, .inl (s.1 14)) from (mk_cell (fx_lt h (by decide)) (fx_14 h)).1) hi2
theorem anm_15 (h : FX D hi) : aNS (mkM h0 B D hi z s) (B + 15) = some 10 := an_15 h
theorem vam_15 (h : FX D hi) {i : Int32} : F_BP_valueAt N (mkM h0 B D hi z s) (B + 15) i = some (vat 10 (s.1 15) i, mkM h0 B D hi z s) := va_15 h
theorem vsm_15 (h : FX D hi) {i x : Int32} : F_BP_setAt N (mkM h0 B D hi z s) (B + 15) i x = some (mkM h0 B D hi z (vsI s 15 10 i x)) := vs_15 h
theorem aim_15 (h : FX D hi) {i : Int32} : aI [0, 6] (mkM h0 B D hi z s) (B + 15) i = rdA s 15 10 i := by
  unfold rdA
  by_cases hi2 : pm_in i 10 = true
  · rw [if_pos hi2]; exact ai_15 h hi2
  · rw [if_neg hi2]; exact aI_out (show ps_h (mkM h0 B D hi z s) (B + 15) = .inl (0, 10, .inl (s.1 15)) from (mk_cell (fx_lt h (by decide)) (fx_15 h)).1) hi2
theorem sim_15 (h : FX D hi) {i x : Int32} : sI [0] (mkM h0 B D hi z s) (B + 15) i x = (stA 0 s 15 10 i x).map (mkM h0 B D hi z) := by
  unfold stA
  by_cases hi2 : pm_in i 10 = true
  · rw [if_pos hi2]; exact si_15 h hi2
  · rw [if_neg hi2]; exact sI_out (show ps_h (mkM h0 B D hi z s) (B + 15) = .inl (0, 10, .inl (s.1 15)) from (mk_cell (fx_lt h (by decide)) (fx_15 h)).1) hi2
theorem anm_16 (h : FX D hi) : aNS (mkM h0 B D hi z s) (B + 16) = some 10 := an_16 h
theorem vam_16 (h : FX D hi) {i : Int32} : F_BP_valueAt N (mkM h0 B D hi z s) (B + 16) i = some (vat 10 (s.1 16) i, mkM h0 B D hi z s) := va_16 h
theorem vsm_16 (h : FX D hi) {i x : Int32} : F_BP_setAt N (mkM h0 B D hi z s) (B + 16) i x = some (mkM h0 B D hi z (vsI s 16 10 i x)) := vs_16 h
theorem aim_16 (h : FX D hi) {i : Int32} : aI [0, 6] (mkM h0 B D hi z s) (B + 16) i = rdA s 16 10 i := by
  unfold rdA
  by_cases hi2 : pm_in i 10 = true
  · rw [if_pos hi2]; exact ai_16 h hi2
  · rw [if_neg hi2]; exact aI_out (show ps_h (mkM h0 B D hi z s) (B + 16) = .inl (0, 10, .inl (s.1 16)) from (mk_cell (fx_lt h (by decide)) (fx_16 h)).1) hi2
theorem sim_16 (h : FX D hi) {i x : Int32} : sI [0] (mkM h0 B D hi z s) (B + 16) i x = (stA 0 s 16 10 i x).map (mkM h0 B D hi z) := by
  unfold stA
  by_cases hi2 : pm_in i 10 = true
  · rw [if_pos hi2]; exact si_16 h hi2
  · rw [if_neg hi2]; exact sI_out (show ps_h (mkM h0 B D hi z s) (B + 16) = .inl (0, 10, .inl (s.1 16)) from (mk_cell (fx_lt h (by decide)) (fx_16 h)).1) hi2
theorem anm_17 (h : FX D hi) : aNS (mkM h0 B D hi z s) (B + 17) = some 10 := an_17 h
theorem vam_17 (h : FX D hi) {i : Int32} : F_BP_valueAt N (mkM h0 B D hi z s) (B + 17) i = some (vat 10 (s.1 17) i, mkM h0 B D hi z s) := va_17 h
theorem vsm_17 (h : FX D hi) {i x : Int32} : F_BP_setAt N (mkM h0 B D hi z s) (B + 17) i x = some (mkM h0 B D hi z (vsI s 17 10 i x)) := vs_17 h
theorem aim_17 (h : FX D hi) {i : Int32} : aI [0, 6] (mkM h0 B D hi z s) (B + 17) i = rdA s 17 10 i := by
  unfold rdA
  by_cases hi2 : pm_in i 10 = true
  · rw [if_pos hi2]; exact ai_17 h hi2
  · rw [if_neg hi2]; exact aI_out (show ps_h (mkM h0 B D hi z s) (B + 17) = .inl (0, 10, .inl (s.1 17)) from (mk_cell (fx_lt h (by decide)) (fx_17 h)).1) hi2
theorem sim_17 (h : FX D hi) {i x : Int32} : sI [0] (mkM h0 B D hi z s) (B + 17) i x = (stA 0 s 17 10 i x).map (mkM h0 B D hi z) := by
  unfold stA
  by_cases hi2 : pm_in i 10 = true
  · rw [if_pos hi2]; exact si_17 h hi2
  · rw [if_neg hi2]; exact sI_out (show ps_h (mkM h0 B D hi z s) (B + 17) = .inl (0, 10, .inl (s.1 17)) from (mk_cell (fx_lt h (by decide)) (fx_17 h)).1) hi2
theorem anm_18 (h : FX D hi) : aNS (mkM h0 B D hi z s) (B + 18) = some 10 := an_18 h
theorem vam_18 (h : FX D hi) {i : Int32} : F_BP_valueAt N (mkM h0 B D hi z s) (B + 18) i = some (vat 10 (s.1 18) i, mkM h0 B D hi z s) := va_18 h
theorem vsm_18 (h : FX D hi) {i x : Int32} : F_BP_setAt N (mkM h0 B D hi z s) (B + 18) i x = some (mkM h0 B D hi z (vsI s 18 10 i x)) := vs_18 h
theorem aim_18 (h : FX D hi) {i : Int32} : aI [0, 6] (mkM h0 B D hi z s) (B + 18) i = rdA s 18 10 i := by
  unfold rdA
  by_cases hi2 : pm_in i 10 = true
  · rw [if_pos hi2]; exact ai_18 h hi2
  · rw [if_neg hi2]; exact aI_out (show ps_h (mkM h0 B D hi z s) (B + 18) = .inl (0, 10, .inl (s.1 18)) from (mk_cell (fx_lt h (by decide)) (fx_18 h)).1) hi2
theorem sim_18 (h : FX D hi) {i x : Int32} : sI [0] (mkM h0 B D hi z s) (B + 18) i x = (stA 0 s 18 10 i x).map (mkM h0 B D hi z) := by
  unfold stA
  by_cases hi2 : pm_in i 10 = true
  · rw [if_pos hi2]; exact si_18 h hi2
  · rw [if_neg hi2]; exact sI_out (show ps_h (mkM h0 B D hi z s) (B + 18) = .inl (0, 10, .inl (s.1 18)) from (mk_cell (fx_lt h (by decide)) (fx_18 h)).1) hi2
theorem anm_19 (h : FX D hi) : aNS (mkM h0 B D hi z s) (B + 19) = some 10 := an_19 h
theorem vam_19 (h : FX D hi) {i : Int32} : F_BP_valueAt N (mkM h0 B D hi z s) (B + 19) i = some (vat 10 (s.1 19) i, mkM h0 B D hi z s) := va_19 h
theorem vsm_19 (h : FX D hi) {i x : Int32} : F_BP_setAt N (mkM h0 B D hi z s) (B + 19) i x = some (mkM h0 B D hi z (vsI s 19 10 i x)) := vs_19 h
theorem aim_19 (h : FX D hi) {i : Int32} : aI [0, 6] (mkM h0 B D hi z s) (B + 19) i = rdA s 19 10 i := by
  unfold rdA
  by_cases hi2 : pm_in i 10 = true
  · rw [if_pos hi2]; exact ai_19 h hi2
  · rw [if_neg hi2]; exact aI_out (show ps_h (mkM h0 B D hi z s) (B + 19) = .inl (0, 10, .inl (s.1 19)) from (mk_cell (fx_lt h (by decide)) (fx_19 h)).1) hi2
theorem sim_19 (h : FX D hi) {i x : Int32} : sI [0] (mkM h0 B D hi z s) (B + 19) i x = (stA 0 s 19 10 i x).map (mkM h0 B D hi z) := by
  unfold stA
  by_cases hi2 : pm_in i 10 = true
  · rw [if_pos hi2]; exact si_19 h hi2
  · rw [if_neg hi2]; exact sI_out (show ps_h (mkM h0 B D hi z s) (B + 19) = .inl (0, 10, .inl (s.1 19)) from (mk_cell (fx_lt h (by decide)) (fx_19 h)).1) hi2
theorem rcm_20 (h : FX D hi) : rcv (mkM h0 B D hi z s) (B + 20) 4 = true := rc_20 h
theorem rdm_20_0 (h : FX D hi) : oI (mkM h0 B D hi z s) (B + 20) 4 0 = some (s.1 20 0) := rd_20_0 h
theorem wrm_20_0 (h : FX D hi) {w : Int32} : wF (mkM h0 B D hi z s) (B + 20) 4 0 .int (.int w) = some (mkM h0 B D hi z (wrI s 20 0 w)) := wr_20_0 h
theorem rdm_20_1 (h : FX D hi) : oR (mkM h0 B D hi z s) (B + 20) 4 1 = some (some (B + 21)) := rd_20_1 h
theorem rdm_20_2 (h : FX D hi) : oR (mkM h0 B D hi z s) (B + 20) 4 2 = some (some (B + 23)) := rd_20_2 h
theorem rdm_20_3 (h : FX D hi) : oR (mkM h0 B D hi z s) (B + 20) 4 3 = some (some (B + 24)) := rd_20_3 h
theorem rdm_20_4 (h : FX D hi) : oR (mkM h0 B D hi z s) (B + 20) 4 4 = some (some (B + 25)) := rd_20_4 h
theorem rdm_20_5 (h : FX D hi) : oR (mkM h0 B D hi z s) (B + 20) 4 5 = some (some (B + 30)) := rd_20_5 h
theorem rdm_20_6 (h : FX D hi) : oR (mkM h0 B D hi z s) (B + 20) 4 6 = some (some (B + 35)) := rd_20_6 h
theorem rdm_20_7 (h : FX D hi) : oR (mkM h0 B D hi z s) (B + 20) 4 7 = some (some (B + 37)) := rd_20_7 h
theorem rdm_20_8 (h : FX D hi) : oR (mkM h0 B D hi z s) (B + 20) 4 8 = some (some (B + 39)) := rd_20_8 h
theorem rdm_20_9 (h : FX D hi) : oR (mkM h0 B D hi z s) (B + 20) 4 9 = some (some (B + 41)) := rd_20_9 h
theorem rdm_20_10 (h : FX D hi) : oR (mkM h0 B D hi z s) (B + 20) 4 10 = some (some (B + 43)) := rd_20_10 h
theorem rdm_20_11 (h : FX D hi) : oR (mkM h0 B D hi z s) (B + 20) 4 11 = some (some (B + 44)) := rd_20_11 h
theorem rcm_21 (h : FX D hi) : rcv (mkM h0 B D hi z s) (B + 21) 2 = true := rc_21 h
theorem rdm_21_0 (h : FX D hi) : oR (mkM h0 B D hi z s) (B + 21) 2 0 = some (some (B + 22)) := rd_21_0 h
theorem rdm_21_1 (h : FX D hi) : oI (mkM h0 B D hi z s) (B + 21) 2 1 = some (s.1 21 1) := rd_21_1 h
theorem wrm_21_1 (h : FX D hi) {w : Int32} : wF (mkM h0 B D hi z s) (B + 21) 2 1 .int (.int w) = some (mkM h0 B D hi z (wrI s 21 1 w)) := wr_21_1 h
theorem rdm_21_2 (h : FX D hi) : oI (mkM h0 B D hi z s) (B + 21) 2 2 = some (s.1 21 2) := rd_21_2 h
theorem wrm_21_2 (h : FX D hi) {w : Int32} : wF (mkM h0 B D hi z s) (B + 21) 2 2 .int (.int w) = some (mkM h0 B D hi z (wrI s 21 2 w)) := wr_21_2 h
theorem anm_22 (h : FX D hi) : aNS (mkM h0 B D hi z s) (B + 22) = some 35 := an_22 h
theorem vam_22 (h : FX D hi) {i : Int32} : F_BP_valueAt N (mkM h0 B D hi z s) (B + 22) i = some (vat 35 (s.1 22) i, mkM h0 B D hi z s) := va_22 h
theorem vsm_22 (h : FX D hi) {i x : Int32} : F_BP_setAt N (mkM h0 B D hi z s) (B + 22) i x = some (mkM h0 B D hi z (vsI s 22 35 i x)) := vs_22 h
theorem aim_22 (h : FX D hi) {i : Int32} : aI [0, 6] (mkM h0 B D hi z s) (B + 22) i = rdA s 22 35 i := by
  unfold rdA
  by_cases hi2 : pm_in i 35 = true
  · rw [if_pos hi2]; exact ai_22 h hi2
  · rw [if_neg hi2]; exact aI_out (show ps_h (mkM h0 B D hi z s) (B + 22) = .inl (0, 35, .inl (s.1 22)) from (mk_cell (fx_lt h (by decide)) (fx_22 h)).1) hi2
theorem sim_22 (h : FX D hi) {i x : Int32} : sI [0] (mkM h0 B D hi z s) (B + 22) i x = (stA 0 s 22 35 i x).map (mkM h0 B D hi z) := by
  unfold stA
  by_cases hi2 : pm_in i 35 = true
  · rw [if_pos hi2]; exact si_22 h hi2
  · rw [if_neg hi2]; exact sI_out (show ps_h (mkM h0 B D hi z s) (B + 22) = .inl (0, 35, .inl (s.1 22)) from (mk_cell (fx_lt h (by decide)) (fx_22 h)).1) hi2
theorem anm_23 (h : FX D hi) : aNS (mkM h0 B D hi z s) (B + 23) = some 8 := an_23 h
theorem vam_23 (h : FX D hi) {i : Int32} : F_BP_valueAt N (mkM h0 B D hi z s) (B + 23) i = some (vat 8 (s.1 23) i, mkM h0 B D hi z s) := va_23 h
theorem vsm_23 (h : FX D hi) {i x : Int32} : F_BP_setAt N (mkM h0 B D hi z s) (B + 23) i x = some (mkM h0 B D hi z (vsI s 23 8 i x)) := vs_23 h
theorem aim_23 (h : FX D hi) {i : Int32} : aI [0, 6] (mkM h0 B D hi z s) (B + 23) i = rdA s 23 8 i := by
  unfold rdA
  by_cases hi2 : pm_in i 8 = true
  · rw [if_pos hi2]; exact ai_23 h hi2
  · rw [if_neg hi2]; exact aI_out (show ps_h (mkM h0 B D hi z s) (B + 23) = .inl (0, 8, .inl (s.1 23)) from (mk_cell (fx_lt h (by decide)) (fx_23 h)).1) hi2
theorem sim_23 (h : FX D hi) {i x : Int32} : sI [0] (mkM h0 B D hi z s) (B + 23) i x = (stA 0 s 23 8 i x).map (mkM h0 B D hi z) := by
  unfold stA
  by_cases hi2 : pm_in i 8 = true
  · rw [if_pos hi2]; exact si_23 h hi2
  · rw [if_neg hi2]; exact sI_out (show ps_h (mkM h0 B D hi z s) (B + 23) = .inl (0, 8, .inl (s.1 23)) from (mk_cell (fx_lt h (by decide)) (fx_23 h)).1) hi2
theorem anm_24 (h : FX D hi) : aNS (mkM h0 B D hi z s) (B + 24) = some 7 := an_24 h
theorem vam_24 (h : FX D hi) {i : Int32} : F_BP_valueAt N (mkM h0 B D hi z s) (B + 24) i = some (vat 7 (s.1 24) i, mkM h0 B D hi z s) := va_24 h
theorem vsm_24 (h : FX D hi) {i x : Int32} : F_BP_setAt N (mkM h0 B D hi z s) (B + 24) i x = some (mkM h0 B D hi z (vsI s 24 7 i x)) := vs_24 h
theorem aim_24 (h : FX D hi) {i : Int32} : aI [0, 6] (mkM h0 B D hi z s) (B + 24) i = rdA s 24 7 i := by
  unfold rdA
  by_cases hi2 : pm_in i 7 = true
  · rw [if_pos hi2]; exact ai_24 h hi2
  · rw [if_neg hi2]; exact aI_out (show ps_h (mkM h0 B D hi z s) (B + 24) = .inl (0, 7, .inl (s.1 24)) from (mk_cell (fx_lt h (by decide)) (fx_24 h)).1) hi2
theorem sim_24 (h : FX D hi) {i x : Int32} : sI [0] (mkM h0 B D hi z s) (B + 24) i x = (stA 0 s 24 7 i x).map (mkM h0 B D hi z) := by
  unfold stA
  by_cases hi2 : pm_in i 7 = true
  · rw [if_pos hi2]; exact si_24 h hi2
  · rw [if_neg hi2]; exact sI_out (show ps_h (mkM h0 B D hi z s) (B + 24) = .inl (0, 7, .inl (s.1 24)) from (mk_cell (fx_lt h (by decide)) (fx_24 h)).1) hi2
theorem rcm_25 (h : FX D hi) : rcv (mkM h0 B D hi z s) (B + 25) 1 = true := rc_25 h
theorem rdm_25_0 (h : FX D hi) : oR (mkM h0 B D hi z s) (B + 25) 1 0 = some (some (B + 26)) := rd_25_0 h
theorem rdm_25_1 (h : FX D hi) : oR (mkM h0 B D hi z s) (B + 25) 1 1 = some (some (B + 27)) := rd_25_1 h
theorem rdm_25_2 (h : FX D hi) : oR (mkM h0 B D hi z s) (B + 25) 1 2 = some (some (B + 28)) := rd_25_2 h
theorem rdm_25_3 (h : FX D hi) : oR (mkM h0 B D hi z s) (B + 25) 1 3 = some (some (B + 29)) := rd_25_3 h
theorem anm_26 (h : FX D hi) : aNS (mkM h0 B D hi z s) (B + 26) = some 56 := an_26 h
theorem vam_26 (h : FX D hi) {i : Int32} : F_BP_valueAt N (mkM h0 B D hi z s) (B + 26) i = some (vat 56 (s.1 26) i, mkM h0 B D hi z s) := va_26 h
theorem vsm_26 (h : FX D hi) {i x : Int32} : F_BP_setAt N (mkM h0 B D hi z s) (B + 26) i x = some (mkM h0 B D hi z (vsI s 26 56 i x)) := vs_26 h
theorem aim_26 (h : FX D hi) {i : Int32} : aI [0, 6] (mkM h0 B D hi z s) (B + 26) i = rdA s 26 56 i := by
  unfold rdA
  by_cases hi2 : pm_in i 56 = true
  · rw [if_pos hi2]; exact ai_26 h hi2
  · rw [if_neg hi2]; exact aI_out (show ps_h (mkM h0 B D hi z s) (B + 26) = .inl (0, 56, .inl (s.1 26)) from (mk_cell (fx_lt h (by decide)) (fx_26 h)).1) hi2
theorem sim_26 (h : FX D hi) {i x : Int32} : sI [0] (mkM h0 B D hi z s) (B + 26) i x = (stA 0 s 26 56 i x).map (mkM h0 B D hi z) := by
  unfold stA
  by_cases hi2 : pm_in i 56 = true
  · rw [if_pos hi2]; exact si_26 h hi2
  · rw [if_neg hi2]; exact sI_out (show ps_h (mkM h0 B D hi z s) (B + 26) = .inl (0, 56, .inl (s.1 26)) from (mk_cell (fx_lt h (by decide)) (fx_26 h)).1) hi2
theorem anm_27 (h : FX D hi) : aNS (mkM h0 B D hi z s) (B + 27) = some 56 := an_27 h
theorem vam_27 (h : FX D hi) {i : Int32} : F_BP_valueAt N (mkM h0 B D hi z s) (B + 27) i = some (vat 56 (s.1 27) i, mkM h0 B D hi z s) := va_27 h
theorem vsm_27 (h : FX D hi) {i x : Int32} : F_BP_setAt N (mkM h0 B D hi z s) (B + 27) i x = some (mkM h0 B D hi z (vsI s 27 56 i x)) := vs_27 h
theorem aim_27 (h : FX D hi) {i : Int32} : aI [0, 6] (mkM h0 B D hi z s) (B + 27) i = rdA s 27 56 i := by
  unfold rdA
  by_cases hi2 : pm_in i 56 = true
  · rw [if_pos hi2]; exact ai_27 h hi2
  · rw [if_neg hi2]; exact aI_out (show ps_h (mkM h0 B D hi z s) (B + 27) = .inl (0, 56, .inl (s.1 27)) from (mk_cell (fx_lt h (by decide)) (fx_27 h)).1) hi2
theorem sim_27 (h : FX D hi) {i x : Int32} : sI [0] (mkM h0 B D hi z s) (B + 27) i x = (stA 0 s 27 56 i x).map (mkM h0 B D hi z) := by
  unfold stA
  by_cases hi2 : pm_in i 56 = true
  · rw [if_pos hi2]; exact si_27 h hi2
  · rw [if_neg hi2]; exact sI_out (show ps_h (mkM h0 B D hi z s) (B + 27) = .inl (0, 56, .inl (s.1 27)) from (mk_cell (fx_lt h (by decide)) (fx_27 h)).1) hi2
theorem anm_28 (h : FX D hi) : aNS (mkM h0 B D hi z s) (B + 28) = some 56 := an_28 h
theorem vam_28 (h : FX D hi) {i : Int32} : F_BP_valueAt N (mkM h0 B D hi z s) (B + 28) i = some (vat 56 (s.1 28) i, mkM h0 B D hi z s) := va_28 h
theorem vsm_28 (h : FX D hi) {i x : Int32} : F_BP_setAt N (mkM h0 B D hi z s) (B + 28) i x = some (mkM h0 B D hi z (vsI s 28 56 i x)) := vs_28 h
theorem aim_28 (h : FX D hi) {i : Int32} : aI [0, 6] (mkM h0 B D hi z s) (B + 28) i = rdA s 28 56 i := by
  unfold rdA
  by_cases hi2 : pm_in i 56 = true
  · rw [if_pos hi2]; exact ai_28 h hi2
  · rw [if_neg hi2]; exact aI_out (show ps_h (mkM h0 B D hi z s) (B + 28) = .inl (0, 56, .inl (s.1 28)) from (mk_cell (fx_lt h (by decide)) (fx_28 h)).1) hi2
theorem sim_28 (h : FX D hi) {i x : Int32} : sI [0] (mkM h0 B D hi z s) (B + 28) i x = (stA 0 s 28 56 i x).map (mkM h0 B D hi z) := by
  unfold stA
  by_cases hi2 : pm_in i 56 = true
  · rw [if_pos hi2]; exact si_28 h hi2
  · rw [if_neg hi2]; exact sI_out (show ps_h (mkM h0 B D hi z s) (B + 28) = .inl (0, 56, .inl (s.1 28)) from (mk_cell (fx_lt h (by decide)) (fx_28 h)).1) hi2
theorem anm_29 (h : FX D hi) : aNS (mkM h0 B D hi z s) (B + 29) = some 10 := an_29 h
theorem vam_29 (h : FX D hi) {i : Int32} : F_BP_valueAt N (mkM h0 B D hi z s) (B + 29) i = some (vat 10 (s.1 29) i, mkM h0 B D hi z s) := va_29 h
theorem vsm_29 (h : FX D hi) {i x : Int32} : F_BP_setAt N (mkM h0 B D hi z s) (B + 29) i x = some (mkM h0 B D hi z (vsI s 29 10 i x)) := vs_29 h
theorem aim_29 (h : FX D hi) {i : Int32} : aI [0, 6] (mkM h0 B D hi z s) (B + 29) i = rdA s 29 10 i := by
  unfold rdA
  by_cases hi2 : pm_in i 10 = true
  · rw [if_pos hi2]; exact ai_29 h hi2
  · rw [if_neg hi2]; exact aI_out (show ps_h (mkM h0 B D hi z s) (B + 29) = .inl (0, 10, .inl (s.1 29)) from (mk_cell (fx_lt h (by decide)) (fx_29 h)).1) hi2
theorem sim_29 (h : FX D hi) {i x : Int32} : sI [0] (mkM h0 B D hi z s) (B + 29) i x = (stA 0 s 29 10 i x).map (mkM h0 B D hi z) := by
  unfold stA
  by_cases hi2 : pm_in i 10 = true
  · rw [if_pos hi2]; exact si_29 h hi2
  · rw [if_neg hi2]; exact sI_out (show ps_h (mkM h0 B D hi z s) (B + 29) = .inl (0, 10, .inl (s.1 29)) from (mk_cell (fx_lt h (by decide)) (fx_29 h)).1) hi2
theorem rcm_30 (h : FX D hi) : rcv (mkM h0 B D hi z s) (B + 30) 1 = true := rc_30 h
theorem rdm_30_0 (h : FX D hi) : oR (mkM h0 B D hi z s) (B + 30) 1 0 = some (some (B + 31)) := rd_30_0 h
theorem rdm_30_1 (h : FX D hi) : oR (mkM h0 B D hi z s) (B + 30) 1 1 = some (some (B + 32)) := rd_30_1 h
theorem rdm_30_2 (h : FX D hi) : oR (mkM h0 B D hi z s) (B + 30) 1 2 = some (some (B + 33)) := rd_30_2 h
theorem rdm_30_3 (h : FX D hi) : oR (mkM h0 B D hi z s) (B + 30) 1 3 = some (some (B + 34)) := rd_30_3 h
theorem anm_31 (h : FX D hi) : aNS (mkM h0 B D hi z s) (B + 31) = some 56 := an_31 h
theorem vam_31 (h : FX D hi) {i : Int32} : F_BP_valueAt N (mkM h0 B D hi z s) (B + 31) i = some (vat 56 (s.1 31) i, mkM h0 B D hi z s) := va_31 h
theorem vsm_31 (h : FX D hi) {i x : Int32} : F_BP_setAt N (mkM h0 B D hi z s) (B + 31) i x = some (mkM h0 B D hi z (vsI s 31 56 i x)) := vs_31 h
theorem aim_31 (h : FX D hi) {i : Int32} : aI [0, 6] (mkM h0 B D hi z s) (B + 31) i = rdA s 31 56 i := by
  unfold rdA
  by_cases hi2 : pm_in i 56 = true
  · rw [if_pos hi2]; exact ai_31 h hi2
  · rw [if_neg hi2]; exact aI_out (show ps_h (mkM h0 B D hi z s) (B + 31) = .inl (0, 56, .inl (s.1 31)) from (mk_cell (fx_lt h (by decide)) (fx_31 h)).1) hi2
theorem sim_31 (h : FX D hi) {i x : Int32} : sI [0] (mkM h0 B D hi z s) (B + 31) i x = (stA 0 s 31 56 i x).map (mkM h0 B D hi z) := by
  unfold stA
  by_cases hi2 : pm_in i 56 = true
  · rw [if_pos hi2]; exact si_31 h hi2
  · rw [if_neg hi2]; exact sI_out (show ps_h (mkM h0 B D hi z s) (B + 31) = .inl (0, 56, .inl (s.1 31)) from (mk_cell (fx_lt h (by decide)) (fx_31 h)).1) hi2
theorem anm_32 (h : FX D hi) : aNS (mkM h0 B D hi z s) (B + 32) = some 56 := an_32 h
theorem vam_32 (h : FX D hi) {i : Int32} : F_BP_valueAt N (mkM h0 B D hi z s) (B + 32) i = some (vat 56 (s.1 32) i, mkM h0 B D hi z s) := va_32 h
theorem vsm_32 (h : FX D hi) {i x : Int32} : F_BP_setAt N (mkM h0 B D hi z s) (B + 32) i x = some (mkM h0 B D hi z (vsI s 32 56 i x)) := vs_32 h
theorem aim_32 (h : FX D hi) {i : Int32} : aI [0, 6] (mkM h0 B D hi z s) (B + 32) i = rdA s 32 56 i := by
  unfold rdA
  by_cases hi2 : pm_in i 56 = true
  · rw [if_pos hi2]; exact ai_32 h hi2
  · rw [if_neg hi2]; exact aI_out (show ps_h (mkM h0 B D hi z s) (B + 32) = .inl (0, 56, .inl (s.1 32)) from (mk_cell (fx_lt h (by decide)) (fx_32 h)).1) hi2
theorem sim_32 (h : FX D hi) {i x : Int32} : sI [0] (mkM h0 B D hi z s) (B + 32) i x = (stA 0 s 32 56 i x).map (mkM h0 B D hi z) := by
  unfold stA
  by_cases hi2 : pm_in i 56 = true
  · rw [if_pos hi2]; exact si_32 h hi2
  · rw [if_neg hi2]; exact sI_out (show ps_h (mkM h0 B D hi z s) (B + 32) = .inl (0, 56, .inl (s.1 32)) from (mk_cell (fx_lt h (by decide)) (fx_32 h)).1) hi2
theorem anm_33 (h : FX D hi) : aNS (mkM h0 B D hi z s) (B + 33) = some 56 := an_33 h
theorem vam_33 (h : FX D hi) {i : Int32} : F_BP_valueAt N (mkM h0 B D hi z s) (B + 33) i = some (vat 56 (s.1 33) i, mkM h0 B D hi z s) := va_33 h
theorem vsm_33 (h : FX D hi) {i x : Int32} : F_BP_setAt N (mkM h0 B D hi z s) (B + 33) i x = some (mkM h0 B D hi z (vsI s 33 56 i x)) := vs_33 h
theorem aim_33 (h : FX D hi) {i : Int32} : aI [0, 6] (mkM h0 B D hi z s) (B + 33) i = rdA s 33 56 i := by
  unfold rdA
  by_cases hi2 : pm_in i 56 = true
  · rw [if_pos hi2]; exact ai_33 h hi2
  · rw [if_neg hi2]; exact aI_out (show ps_h (mkM h0 B D hi z s) (B + 33) = .inl (0, 56, .inl (s.1 33)) from (mk_cell (fx_lt h (by decide)) (fx_33 h)).1) hi2
theorem sim_33 (h : FX D hi) {i x : Int32} : sI [0] (mkM h0 B D hi z s) (B + 33) i x = (stA 0 s 33 56 i x).map (mkM h0 B D hi z) := by
  unfold stA
  by_cases hi2 : pm_in i 56 = true
  · rw [if_pos hi2]; exact si_33 h hi2
  · rw [if_neg hi2]; exact sI_out (show ps_h (mkM h0 B D hi z s) (B + 33) = .inl (0, 56, .inl (s.1 33)) from (mk_cell (fx_lt h (by decide)) (fx_33 h)).1) hi2
theorem anm_34 (h : FX D hi) : aNS (mkM h0 B D hi z s) (B + 34) = some 10 := an_34 h
theorem vam_34 (h : FX D hi) {i : Int32} : F_BP_valueAt N (mkM h0 B D hi z s) (B + 34) i = some (vat 10 (s.1 34) i, mkM h0 B D hi z s) := va_34 h
theorem vsm_34 (h : FX D hi) {i x : Int32} : F_BP_setAt N (mkM h0 B D hi z s) (B + 34) i x = some (mkM h0 B D hi z (vsI s 34 10 i x)) := vs_34 h
theorem aim_34 (h : FX D hi) {i : Int32} : aI [0, 6] (mkM h0 B D hi z s) (B + 34) i = rdA s 34 10 i := by
  unfold rdA
  by_cases hi2 : pm_in i 10 = true
  · rw [if_pos hi2]; exact ai_34 h hi2
  · rw [if_neg hi2]; exact aI_out (show ps_h (mkM h0 B D hi z s) (B + 34) = .inl (0, 10, .inl (s.1 34)) from (mk_cell (fx_lt h (by decide)) (fx_34 h)).1) hi2
theorem sim_34 (h : FX D hi) {i x : Int32} : sI [0] (mkM h0 B D hi z s) (B + 34) i x = (stA 0 s 34 10 i x).map (mkM h0 B D hi z) := by
  unfold stA
  by_cases hi2 : pm_in i 10 = true
  · rw [if_pos hi2]; exact si_34 h hi2
  · rw [if_neg hi2]; exact sI_out (show ps_h (mkM h0 B D hi z s) (B + 34) = .inl (0, 10, .inl (s.1 34)) from (mk_cell (fx_lt h (by decide)) (fx_34 h)).1) hi2
theorem rcm_35 (h : FX D hi) : rcv (mkM h0 B D hi z s) (B + 35) 2 = true := rc_35 h
theorem rdm_35_0 (h : FX D hi) : oR (mkM h0 B D hi z s) (B + 35) 2 0 = some (some (B + 36)) := rd_35_0 h
theorem rdm_35_1 (h : FX D hi) : oI (mkM h0 B D hi z s) (B + 35) 2 1 = some (s.1 35 1) := rd_35_1 h
theorem wrm_35_1 (h : FX D hi) {w : Int32} : wF (mkM h0 B D hi z s) (B + 35) 2 1 .int (.int w) = some (mkM h0 B D hi z (wrI s 35 1 w)) := wr_35_1 h
theorem rdm_35_2 (h : FX D hi) : oI (mkM h0 B D hi z s) (B + 35) 2 2 = some (s.1 35 2) := rd_35_2 h
theorem wrm_35_2 (h : FX D hi) {w : Int32} : wF (mkM h0 B D hi z s) (B + 35) 2 2 .int (.int w) = some (mkM h0 B D hi z (wrI s 35 2 w)) := wr_35_2 h
theorem anm_36 (h : FX D hi) : aNS (mkM h0 B D hi z s) (B + 36) = some 30 := an_36 h
theorem vam_36 (h : FX D hi) {i : Int32} : F_BP_valueAt N (mkM h0 B D hi z s) (B + 36) i = some (vat 30 (s.1 36) i, mkM h0 B D hi z s) := va_36 h
theorem vsm_36 (h : FX D hi) {i x : Int32} : F_BP_setAt N (mkM h0 B D hi z s) (B + 36) i x = some (mkM h0 B D hi z (vsI s 36 30 i x)) := vs_36 h
theorem aim_36 (h : FX D hi) {i : Int32} : aI [0, 6] (mkM h0 B D hi z s) (B + 36) i = rdA s 36 30 i := by
  unfold rdA
  by_cases hi2 : pm_in i 30 = true
  · rw [if_pos hi2]; exact ai_36 h hi2
  · rw [if_neg hi2]; exact aI_out (show ps_h (mkM h0 B D hi z s) (B + 36) = .inl (0, 30, .inl (s.1 36)) from (mk_cell (fx_lt h (by decide)) (fx_36 h)).1) hi2
theorem sim_36 (h : FX D hi) {i x : Int32} : sI [0] (mkM h0 B D hi z s) (B + 36) i x = (stA 0 s 36 30 i x).map (mkM h0 B D hi z) := by
  unfold stA
  by_cases hi2 : pm_in i 30 = true
  · rw [if_pos hi2]; exact si_36 h hi2
  · rw [if_neg hi2]; exact sI_out (show ps_h (mkM h0 B D hi z s) (B + 36) = .inl (0, 30, .inl (s.1 36)) from (mk_cell (fx_lt h (by decide)) (fx_36 h)).1) hi2
theorem rcm_37 (h : FX D hi) : rcv (mkM h0 B D hi z s) (B + 37) 2 = true := rc_37 h
theorem rdm_37_0 (h : FX D hi) : oR (mkM h0 B D hi z s) (B + 37) 2 0 = some (some (B + 38)) := rd_37_0 h
theorem rdm_37_1 (h : FX D hi) : oI (mkM h0 B D hi z s) (B + 37) 2 1 = some (s.1 37 1) := rd_37_1 h
theorem wrm_37_1 (h : FX D hi) {w : Int32} : wF (mkM h0 B D hi z s) (B + 37) 2 1 .int (.int w) = some (mkM h0 B D hi z (wrI s 37 1 w)) := wr_37_1 h
theorem rdm_37_2 (h : FX D hi) : oI (mkM h0 B D hi z s) (B + 37) 2 2 = some (s.1 37 2) := rd_37_2 h
theorem wrm_37_2 (h : FX D hi) {w : Int32} : wF (mkM h0 B D hi z s) (B + 37) 2 2 .int (.int w) = some (mkM h0 B D hi z (wrI s 37 2 w)) := wr_37_2 h
theorem anm_38 (h : FX D hi) : aNS (mkM h0 B D hi z s) (B + 38) = some 50 := an_38 h
theorem vam_38 (h : FX D hi) {i : Int32} : F_BP_valueAt N (mkM h0 B D hi z s) (B + 38) i = some (vat 50 (s.1 38) i, mkM h0 B D hi z s) := va_38 h
theorem vsm_38 (h : FX D hi) {i x : Int32} : F_BP_setAt N (mkM h0 B D hi z s) (B + 38) i x = some (mkM h0 B D hi z (vsI s 38 50 i x)) := vs_38 h
theorem aim_38 (h : FX D hi) {i : Int32} : aI [0, 6] (mkM h0 B D hi z s) (B + 38) i = rdA s 38 50 i := by
  unfold rdA
  by_cases hi2 : pm_in i 50 = true
  · rw [if_pos hi2]; exact ai_38 h hi2
  · rw [if_neg hi2]; exact aI_out (show ps_h (mkM h0 B D hi z s) (B + 38) = .inl (0, 50, .inl (s.1 38)) from (mk_cell (fx_lt h (by decide)) (fx_38 h)).1) hi2
theorem sim_38 (h : FX D hi) {i x : Int32} : sI [0] (mkM h0 B D hi z s) (B + 38) i x = (stA 0 s 38 50 i x).map (mkM h0 B D hi z) := by
  unfold stA
  by_cases hi2 : pm_in i 50 = true
  · rw [if_pos hi2]; exact si_38 h hi2
  · rw [if_neg hi2]; exact sI_out (show ps_h (mkM h0 B D hi z s) (B + 38) = .inl (0, 50, .inl (s.1 38)) from (mk_cell (fx_lt h (by decide)) (fx_38 h)).1) hi2
theorem rcm_39 (h : FX D hi) : rcv (mkM h0 B D hi z s) (B + 39) 2 = true := rc_39 h
theorem rdm_39_0 (h : FX D hi) : oR (mkM h0 B D hi z s) (B + 39) 2 0 = some (some (B + 40)) := rd_39_0 h
theorem rdm_39_1 (h : FX D hi) : oI (mkM h0 B D hi z s) (B + 39) 2 1 = some (s.1 39 1) := rd_39_1 h
theorem wrm_39_1 (h : FX D hi) {w : Int32} : wF (mkM h0 B D hi z s) (B + 39) 2 1 .int (.int w) = some (mkM h0 B D hi z (wrI s 39 1 w)) := wr_39_1 h
theorem rdm_39_2 (h : FX D hi) : oI (mkM h0 B D hi z s) (B + 39) 2 2 = some (s.1 39 2) := rd_39_2 h
theorem wrm_39_2 (h : FX D hi) {w : Int32} : wF (mkM h0 B D hi z s) (B + 39) 2 2 .int (.int w) = some (mkM h0 B D hi z (wrI s 39 2 w)) := wr_39_2 h
theorem anm_40 (h : FX D hi) : aNS (mkM h0 B D hi z s) (B + 40) = some 60 := an_40 h
theorem vam_40 (h : FX D hi) {i : Int32} : F_BP_valueAt N (mkM h0 B D hi z s) (B + 40) i = some (vat 60 (s.1 40) i, mkM h0 B D hi z s) := va_40 h
theorem vsm_40 (h : FX D hi) {i x : Int32} : F_BP_setAt N (mkM h0 B D hi z s) (B + 40) i x = some (mkM h0 B D hi z (vsI s 40 60 i x)) := vs_40 h
theorem aim_40 (h : FX D hi) {i : Int32} : aI [0, 6] (mkM h0 B D hi z s) (B + 40) i = rdA s 40 60 i := by
  unfold rdA
  by_cases hi2 : pm_in i 60 = true
  · rw [if_pos hi2]; exact ai_40 h hi2
  · rw [if_neg hi2]; exact aI_out (show ps_h (mkM h0 B D hi z s) (B + 40) = .inl (0, 60, .inl (s.1 40)) from (mk_cell (fx_lt h (by decide)) (fx_40 h)).1) hi2
theorem sim_40 (h : FX D hi) {i x : Int32} : sI [0] (mkM h0 B D hi z s) (B + 40) i x = (stA 0 s 40 60 i x).map (mkM h0 B D hi z) := by
  unfold stA
  by_cases hi2 : pm_in i 60 = true
  · rw [if_pos hi2]; exact si_40 h hi2
  · rw [if_neg hi2]; exact sI_out (show ps_h (mkM h0 B D hi z s) (B + 40) = .inl (0, 60, .inl (s.1 40)) from (mk_cell (fx_lt h (by decide)) (fx_40 h)).1) hi2
theorem rcm_41 (h : FX D hi) : rcv (mkM h0 B D hi z s) (B + 41) 2 = true := rc_41 h
theorem rdm_41_0 (h : FX D hi) : oR (mkM h0 B D hi z s) (B + 41) 2 0 = some (some (B + 42)) := rd_41_0 h
theorem rdm_41_1 (h : FX D hi) : oI (mkM h0 B D hi z s) (B + 41) 2 1 = some (s.1 41 1) := rd_41_1 h
theorem wrm_41_1 (h : FX D hi) {w : Int32} : wF (mkM h0 B D hi z s) (B + 41) 2 1 .int (.int w) = some (mkM h0 B D hi z (wrI s 41 1 w)) := wr_41_1 h
theorem rdm_41_2 (h : FX D hi) : oI (mkM h0 B D hi z s) (B + 41) 2 2 = some (s.1 41 2) := rd_41_2 h
theorem wrm_41_2 (h : FX D hi) {w : Int32} : wF (mkM h0 B D hi z s) (B + 41) 2 2 .int (.int w) = some (mkM h0 B D hi z (wrI s 41 2 w)) := wr_41_2 h
theorem anm_42 (h : FX D hi) : aNS (mkM h0 B D hi z s) (B + 42) = some 120 := an_42 h
theorem vam_42 (h : FX D hi) {i : Int32} : F_BP_valueAt N (mkM h0 B D hi z s) (B + 42) i = some (vat 120 (s.1 42) i, mkM h0 B D hi z s) := va_42 h
theorem vsm_42 (h : FX D hi) {i x : Int32} : F_BP_setAt N (mkM h0 B D hi z s) (B + 42) i x = some (mkM h0 B D hi z (vsI s 42 120 i x)) := vs_42 h
theorem aim_42 (h : FX D hi) {i : Int32} : aI [0, 6] (mkM h0 B D hi z s) (B + 42) i = rdA s 42 120 i := by
  unfold rdA
  by_cases hi2 : pm_in i 120 = true
  · rw [if_pos hi2]; exact ai_42 h hi2
  · rw [if_neg hi2]; exact aI_out (show ps_h (mkM h0 B D hi z s) (B + 42) = .inl (0, 120, .inl (s.1 42)) from (mk_cell (fx_lt h (by decide)) (fx_42 h)).1) hi2
theorem sim_42 (h : FX D hi) {i x : Int32} : sI [0] (mkM h0 B D hi z s) (B + 42) i x = (stA 0 s 42 120 i x).map (mkM h0 B D hi z) := by
  unfold stA
  by_cases hi2 : pm_in i 120 = true
  · rw [if_pos hi2]; exact si_42 h hi2
  · rw [if_neg hi2]; exact sI_out (show ps_h (mkM h0 B D hi z s) (B + 42) = .inl (0, 120, .inl (s.1 42)) from (mk_cell (fx_lt h (by decide)) (fx_42 h)).1) hi2
theorem anm_43 (h : FX D hi) : aNS (mkM h0 B D hi z s) (B + 43) = some 10 := an_43 h
theorem vam_43 (h : FX D hi) {i : Int32} : F_BP_valueAt N (mkM h0 B D hi z s) (B + 43) i = some (vat 10 (s.1 43) i, mkM h0 B D hi z s) := va_43 h
theorem vsm_43 (h : FX D hi) {i x : Int32} : F_BP_setAt N (mkM h0 B D hi z s) (B + 43) i x = some (mkM h0 B D hi z (vsI s 43 10 i x)) := vs_43 h
theorem aim_43 (h : FX D hi) {i : Int32} : aI [0, 6] (mkM h0 B D hi z s) (B + 43) i = rdA s 43 10 i := by
  unfold rdA
  by_cases hi2 : pm_in i 10 = true
  · rw [if_pos hi2]; exact ai_43 h hi2
  · rw [if_neg hi2]; exact aI_out (show ps_h (mkM h0 B D hi z s) (B + 43) = .inl (0, 10, .inl (s.1 43)) from (mk_cell (fx_lt h (by decide)) (fx_43 h)).1) hi2
theorem sim_43 (h : FX D hi) {i x : Int32} : sI [0] (mkM h0 B D hi z s) (B + 43) i x = (stA 0 s 43 10 i x).map (mkM h0 B D hi z) := by
  unfold stA
  by_cases hi2 : pm_in i 10 = true
  · rw [if_pos hi2]; exact si_43 h hi2
  · rw [if_neg hi2]; exact sI_out (show ps_h (mkM h0 B D hi z s) (B + 43) = .inl (0, 10, .inl (s.1 43)) from (mk_cell (fx_lt h (by decide)) (fx_43 h)).1) hi2
theorem rcm_44 (h : FX D hi) : rcv (mkM h0 B D hi z s) (B + 44) 5 = true := rc_44 h
theorem rdm_44_0 (h : FX D hi) : oR (mkM h0 B D hi z s) (B + 44) 5 0 = some (some (B + 45)) := rd_44_0 h
theorem rdm_44_1 (h : FX D hi) : oR (mkM h0 B D hi z s) (B + 44) 5 1 = some (some (B + 46)) := rd_44_1 h
theorem rdm_44_2 (h : FX D hi) : oI (mkM h0 B D hi z s) (B + 44) 5 2 = some (s.1 44 2) := rd_44_2 h
theorem wrm_44_2 (h : FX D hi) {w : Int32} : wF (mkM h0 B D hi z s) (B + 44) 5 2 .int (.int w) = some (mkM h0 B D hi z (wrI s 44 2 w)) := wr_44_2 h
theorem rdm_44_3 (h : FX D hi) : oI (mkM h0 B D hi z s) (B + 44) 5 3 = some (s.1 44 3) := rd_44_3 h
theorem wrm_44_3 (h : FX D hi) {w : Int32} : wF (mkM h0 B D hi z s) (B + 44) 5 3 .int (.int w) = some (mkM h0 B D hi z (wrI s 44 3 w)) := wr_44_3 h
theorem rdm_44_4 (h : FX D hi) : oI (mkM h0 B D hi z s) (B + 44) 5 4 = some (s.1 44 4) := rd_44_4 h
theorem anm_46 (h : FX D hi) : aNS (mkM h0 B D hi z s) (B + 46) = some 1024 := an_46 h
theorem vam_46 (h : FX D hi) {i : Int32} : F_BP_valueAt N (mkM h0 B D hi z s) (B + 46) i = some (vat 1024 (s.1 46) i, mkM h0 B D hi z s) := va_46 h
theorem vsm_46 (h : FX D hi) {i x : Int32} : F_BP_setAt N (mkM h0 B D hi z s) (B + 46) i x = some (mkM h0 B D hi z (vsI s 46 1024 i x)) := vs_46 h
theorem aim_46 (h : FX D hi) {i : Int32} : aI [0, 6] (mkM h0 B D hi z s) (B + 46) i = rdA s 46 1024 i := by
  unfold rdA
  by_cases hi2 : pm_in i 1024 = true
  · rw [if_pos hi2]; exact ai_46 h hi2
  · rw [if_neg hi2]; exact aI_out (show ps_h (mkM h0 B D hi z s) (B + 46) = .inl (0, 1024, .inl (s.1 46)) from (mk_cell (fx_lt h (by decide)) (fx_46 h)).1) hi2
theorem sim_46 (h : FX D hi) {i x : Int32} : sI [0] (mkM h0 B D hi z s) (B + 46) i x = (stA 0 s 46 1024 i x).map (mkM h0 B D hi z) := by
  unfold stA
  by_cases hi2 : pm_in i 1024 = true
  · rw [if_pos hi2]; exact si_46 h hi2
  · rw [if_neg hi2]; exact sI_out (show ps_h (mkM h0 B D hi z s) (B + 46) = .inl (0, 1024, .inl (s.1 46)) from (mk_cell (fx_lt h (by decide)) (fx_46 h)).1) hi2
theorem rcm_47 (h : FX D hi) : rcv (mkM h0 B D hi z s) (B + 47) 8 = true := rc_47 h
theorem rdm_47_0 (h : FX D hi) : oR (mkM h0 B D hi z s) (B + 47) 8 0 = some (some (B + 48)) := rd_47_0 h
theorem rdm_47_1 (h : FX D hi) : oR (mkM h0 B D hi z s) (B + 47) 8 1 = some (some (B + 49)) := rd_47_1 h
theorem rdm_47_2 (h : FX D hi) : oR (mkM h0 B D hi z s) (B + 47) 8 2 = some (some (B + 50)) := rd_47_2 h
theorem rdm_47_3 (h : FX D hi) : oR (mkM h0 B D hi z s) (B + 47) 8 3 = some (some (B + 51)) := rd_47_3 h
theorem rdm_47_4 (h : FX D hi) : oI (mkM h0 B D hi z s) (B + 47) 8 4 = some (s.1 47 4) := rd_47_4 h
theorem wrm_47_4 (h : FX D hi) {w : Int32} : wF (mkM h0 B D hi z s) (B + 47) 8 4 .int (.int w) = some (mkM h0 B D hi z (wrI s 47 4 w)) := wr_47_4 h
theorem anm_48 (h : FX D hi) : aNS (mkM h0 B D hi z s) (B + 48) = some 56 := an_48 h
theorem vam_48 (h : FX D hi) {i : Int32} : F_BP_valueAt N (mkM h0 B D hi z s) (B + 48) i = some (vat 56 (s.1 48) i, mkM h0 B D hi z s) := va_48 h
theorem vsm_48 (h : FX D hi) {i x : Int32} : F_BP_setAt N (mkM h0 B D hi z s) (B + 48) i x = some (mkM h0 B D hi z (vsI s 48 56 i x)) := vs_48 h
theorem aim_48 (h : FX D hi) {i : Int32} : aI [0, 6] (mkM h0 B D hi z s) (B + 48) i = rdA s 48 56 i := by
  unfold rdA
  by_cases hi2 : pm_in i 56 = true
  · rw [if_pos hi2]; exact ai_48 h hi2
  · rw [if_neg hi2]; exact aI_out (show ps_h (mkM h0 B D hi z s) (B + 48) = .inl (0, 56, .inl (s.1 48)) from (mk_cell (fx_lt h (by decide)) (fx_48 h)).1) hi2
theorem sim_48 (h : FX D hi) {i x : Int32} : sI [0] (mkM h0 B D hi z s) (B + 48) i x = (stA 0 s 48 56 i x).map (mkM h0 B D hi z) := by
  unfold stA
  by_cases hi2 : pm_in i 56 = true
  · rw [if_pos hi2]; exact si_48 h hi2
  · rw [if_neg hi2]; exact sI_out (show ps_h (mkM h0 B D hi z s) (B + 48) = .inl (0, 56, .inl (s.1 48)) from (mk_cell (fx_lt h (by decide)) (fx_48 h)).1) hi2
theorem anm_49 (h : FX D hi) : aNS (mkM h0 B D hi z s) (B + 49) = some 616 := an_49 h
theorem vam_49 (h : FX D hi) {i : Int32} : F_BP_valueAt N (mkM h0 B D hi z s) (B + 49) i = some (vat 616 (s.1 49) i, mkM h0 B D hi z s) := va_49 h
theorem vsm_49 (h : FX D hi) {i x : Int32} : F_BP_setAt N (mkM h0 B D hi z s) (B + 49) i x = some (mkM h0 B D hi z (vsI s 49 616 i x)) := vs_49 h
theorem aim_49 (h : FX D hi) {i : Int32} : aI [0, 6] (mkM h0 B D hi z s) (B + 49) i = rdA s 49 616 i := by
  unfold rdA
  by_cases hi2 : pm_in i 616 = true
  · rw [if_pos hi2]; exact ai_49 h hi2
  · rw [if_neg hi2]; exact aI_out (show ps_h (mkM h0 B D hi z s) (B + 49) = .inl (0, 616, .inl (s.1 49)) from (mk_cell (fx_lt h (by decide)) (fx_49 h)).1) hi2
theorem sim_49 (h : FX D hi) {i x : Int32} : sI [0] (mkM h0 B D hi z s) (B + 49) i x = (stA 0 s 49 616 i x).map (mkM h0 B D hi z) := by
  unfold stA
  by_cases hi2 : pm_in i 616 = true
  · rw [if_pos hi2]; exact si_49 h hi2
  · rw [if_neg hi2]; exact sI_out (show ps_h (mkM h0 B D hi z s) (B + 49) = .inl (0, 616, .inl (s.1 49)) from (mk_cell (fx_lt h (by decide)) (fx_49 h)).1) hi2
theorem anm_50 (h : FX D hi) : aNS (mkM h0 B D hi z s) (B + 50) = some 7 := an_50 h
theorem vam_50 (h : FX D hi) {i : Int32} : F_BP_valueAt N (mkM h0 B D hi z s) (B + 50) i = some (vat 7 (s.1 50) i, mkM h0 B D hi z s) := va_50 h
theorem vsm_50 (h : FX D hi) {i x : Int32} : F_BP_setAt N (mkM h0 B D hi z s) (B + 50) i x = some (mkM h0 B D hi z (vsI s 50 7 i x)) := vs_50 h
theorem aim_50 (h : FX D hi) {i : Int32} : aI [0, 6] (mkM h0 B D hi z s) (B + 50) i = rdA s 50 7 i := by
  unfold rdA
  by_cases hi2 : pm_in i 7 = true
  · rw [if_pos hi2]; exact ai_50 h hi2
  · rw [if_neg hi2]; exact aI_out (show ps_h (mkM h0 B D hi z s) (B + 50) = .inl (0, 7, .inl (s.1 50)) from (mk_cell (fx_lt h (by decide)) (fx_50 h)).1) hi2
theorem sim_50 (h : FX D hi) {i x : Int32} : sI [0] (mkM h0 B D hi z s) (B + 50) i x = (stA 0 s 50 7 i x).map (mkM h0 B D hi z) := by
  unfold stA
  by_cases hi2 : pm_in i 7 = true
  · rw [if_pos hi2]; exact si_50 h hi2
  · rw [if_neg hi2]; exact sI_out (show ps_h (mkM h0 B D hi z s) (B + 50) = .inl (0, 7, .inl (s.1 50)) from (mk_cell (fx_lt h (by decide)) (fx_50 h)).1) hi2
theorem anm_51 (h : FX D hi) : aNS (mkM h0 B D hi z s) (B + 51) = some 7 := an_51 h
theorem vam_51 (h : FX D hi) {i : Int32} : F_BP_valueAt N (mkM h0 B D hi z s) (B + 51) i = some (vat 7 (s.1 51) i, mkM h0 B D hi z s) := va_51 h
theorem vsm_51 (h : FX D hi) {i x : Int32} : F_BP_setAt N (mkM h0 B D hi z s) (B + 51) i x = some (mkM h0 B D hi z (vsI s 51 7 i x)) := vs_51 h
theorem aim_51 (h : FX D hi) {i : Int32} : aI [0, 6] (mkM h0 B D hi z s) (B + 51) i = rdA s 51 7 i := by
  unfold rdA
  by_cases hi2 : pm_in i 7 = true
  · rw [if_pos hi2]; exact ai_51 h hi2
  · rw [if_neg hi2]; exact aI_out (show ps_h (mkM h0 B D hi z s) (B + 51) = .inl (0, 7, .inl (s.1 51)) from (mk_cell (fx_lt h (by decide)) (fx_51 h)).1) hi2
theorem sim_51 (h : FX D hi) {i x : Int32} : sI [0] (mkM h0 B D hi z s) (B + 51) i x = (stA 0 s 51 7 i x).map (mkM h0 B D hi z) := by
  unfold stA
  by_cases hi2 : pm_in i 7 = true
  · rw [if_pos hi2]; exact si_51 h hi2
  · rw [if_neg hi2]; exact sI_out (show ps_h (mkM h0 B D hi z s) (B + 51) = .inl (0, 7, .inl (s.1 51)) from (mk_cell (fx_lt h (by decide)) (fx_51 h)).1) hi2
theorem anm_53 (h : FX D hi) : aNS (mkM h0 B D hi z s) (B + 53) = some 2776 := an_53 h
theorem vam_53 (h : FX D hi) {i : Int32} : F_BP_valueAt N (mkM h0 B D hi z s) (B + 53) i = some (vat 2776 (s.1 53) i, mkM h0 B D hi z s) := va_53 h
theorem vsm_53 (h : FX D hi) {i x : Int32} : F_BP_setAt N (mkM h0 B D hi z s) (B + 53) i x = some (mkM h0 B D hi z (vsI s 53 2776 i x)) := vs_53 h
theorem aim_53 (h : FX D hi) {i : Int32} : aI [0, 6] (mkM h0 B D hi z s) (B + 53) i = rdA s 53 2776 i := by
  unfold rdA
  by_cases hi2 : pm_in i 2776 = true
  · rw [if_pos hi2]; exact ai_53 h hi2
  · rw [if_neg hi2]; exact aI_out (show ps_h (mkM h0 B D hi z s) (B + 53) = .inl (0, 2776, .inl (s.1 53)) from (mk_cell (fx_lt h (by decide)) (fx_53 h)).1) hi2
theorem sim_53 (h : FX D hi) {i x : Int32} : sI [0] (mkM h0 B D hi z s) (B + 53) i x = (stA 0 s 53 2776 i x).map (mkM h0 B D hi z) := by
  unfold stA
  by_cases hi2 : pm_in i 2776 = true
  · rw [if_pos hi2]; exact si_53 h hi2
  · rw [if_neg hi2]; exact sI_out (show ps_h (mkM h0 B D hi z s) (B + 53) = .inl (0, 2776, .inl (s.1 53)) from (mk_cell (fx_lt h (by decide)) (fx_53 h)).1) hi2
theorem rcm_54 (h : FX D hi) : rcv (mkM h0 B D hi z s) (B + 54) 3 = true := rc_54 h
theorem rdm_54_0 (h : FX D hi) : oR (mkM h0 B D hi z s) (B + 54) 3 0 = some (some (B + 55)) := rd_54_0 h
theorem rdm_54_1 (h : FX D hi) : oR (mkM h0 B D hi z s) (B + 54) 3 1 = some (some (B + 56)) := rd_54_1 h
theorem rdm_54_2 (h : FX D hi) : oR (mkM h0 B D hi z s) (B + 54) 3 2 = some (some (B + 57)) := rd_54_2 h
theorem rdm_54_3 (h : FX D hi) : oI (mkM h0 B D hi z s) (B + 54) 3 3 = some (s.1 54 3) := rd_54_3 h
theorem wrm_54_3 (h : FX D hi) {w : Int32} : wF (mkM h0 B D hi z s) (B + 54) 3 3 .int (.int w) = some (mkM h0 B D hi z (wrI s 54 3 w)) := wr_54_3 h
theorem rdm_54_4 (h : FX D hi) : oI (mkM h0 B D hi z s) (B + 54) 3 4 = some (s.1 54 4) := rd_54_4 h
theorem wrm_54_4 (h : FX D hi) {w : Int32} : wF (mkM h0 B D hi z s) (B + 54) 3 4 .int (.int w) = some (mkM h0 B D hi z (wrI s 54 4 w)) := wr_54_4 h
theorem rdm_54_5 (h : FX D hi) : oI (mkM h0 B D hi z s) (B + 54) 3 5 = some (s.1 54 5) := rd_54_5 h
theorem wrm_54_5 (h : FX D hi) {w : Int32} : wF (mkM h0 B D hi z s) (B + 54) 3 5 .int (.int w) = some (mkM h0 B D hi z (wrI s 54 5 w)) := wr_54_5 h
theorem anm_55 (h : FX D hi) : aNS (mkM h0 B D hi z s) (B + 55) = some 10 := an_55 h
theorem vam_55 (h : FX D hi) {i : Int32} : F_BP_valueAt N (mkM h0 B D hi z s) (B + 55) i = some (vat 10 (s.1 55) i, mkM h0 B D hi z s) := va_55 h
theorem vsm_55 (h : FX D hi) {i x : Int32} : F_BP_setAt N (mkM h0 B D hi z s) (B + 55) i x = some (mkM h0 B D hi z (vsI s 55 10 i x)) := vs_55 h
theorem aim_55 (h : FX D hi) {i : Int32} : aI [0, 6] (mkM h0 B D hi z s) (B + 55) i = rdA s 55 10 i := by
  unfold rdA
  by_cases hi2 : pm_in i 10 = true
  · rw [if_pos hi2]; exact ai_55 h hi2
  · rw [if_neg hi2]; exact aI_out (show ps_h (mkM h0 B D hi z s) (B + 55) = .inl (0, 10, .inl (s.1 55)) from (mk_cell (fx_lt h (by decide)) (fx_55 h)).1) hi2
theorem sim_55 (h : FX D hi) {i x : Int32} : sI [0] (mkM h0 B D hi z s) (B + 55) i x = (stA 0 s 55 10 i x).map (mkM h0 B D hi z) := by
  unfold stA
  by_cases hi2 : pm_in i 10 = true
  · rw [if_pos hi2]; exact si_55 h hi2
  · rw [if_neg hi2]; exact sI_out (show ps_h (mkM h0 B D hi z s) (B + 55) = .inl (0, 10, .inl (s.1 55)) from (mk_cell (fx_lt h (by decide)) (fx_55 h)).1) hi2
theorem anm_56 (h : FX D hi) : aNS (mkM h0 B D hi z s) (B + 56) = some 10 := an_56 h
theorem vam_56 (h : FX D hi) {i : Int32} : F_BP_valueAt N (mkM h0 B D hi z s) (B + 56) i = some (vat 10 (s.1 56) i, mkM h0 B D hi z s) := va_56 h
theorem vsm_56 (h : FX D hi) {i x : Int32} : F_BP_setAt N (mkM h0 B D hi z s) (B + 56) i x = some (mkM h0 B D hi z (vsI s 56 10 i x)) := vs_56 h
theorem aim_56 (h : FX D hi) {i : Int32} : aI [0, 6] (mkM h0 B D hi z s) (B + 56) i = rdA s 56 10 i := by
  unfold rdA
  by_cases hi2 : pm_in i 10 = true
  · rw [if_pos hi2]; exact ai_56 h hi2
  · rw [if_neg hi2]; exact aI_out (show ps_h (mkM h0 B D hi z s) (B + 56) = .inl (0, 10, .inl (s.1 56)) from (mk_cell (fx_lt h (by decide)) (fx_56 h)).1) hi2
theorem sim_56 (h : FX D hi) {i x : Int32} : sI [0] (mkM h0 B D hi z s) (B + 56) i x = (stA 0 s 56 10 i x).map (mkM h0 B D hi z) := by
  unfold stA
  by_cases hi2 : pm_in i 10 = true
  · rw [if_pos hi2]; exact si_56 h hi2
  · rw [if_neg hi2]; exact sI_out (show ps_h (mkM h0 B D hi z s) (B + 56) = .inl (0, 10, .inl (s.1 56)) from (mk_cell (fx_lt h (by decide)) (fx_56 h)).1) hi2
theorem anm_57 (h : FX D hi) : aNS (mkM h0 B D hi z s) (B + 57) = some 20 := an_57 h
theorem vam_57 (h : FX D hi) {i : Int32} : F_BP_valueAt N (mkM h0 B D hi z s) (B + 57) i = some (vat 20 (s.1 57) i, mkM h0 B D hi z s) := va_57 h
theorem vsm_57 (h : FX D hi) {i x : Int32} : F_BP_setAt N (mkM h0 B D hi z s) (B + 57) i x = some (mkM h0 B D hi z (vsI s 57 20 i x)) := vs_57 h
theorem aim_57 (h : FX D hi) {i : Int32} : aI [0, 6] (mkM h0 B D hi z s) (B + 57) i = rdA s 57 20 i := by
  unfold rdA
  by_cases hi2 : pm_in i 20 = true
  · rw [if_pos hi2]; exact ai_57 h hi2
  · rw [if_neg hi2]; exact aI_out (show ps_h (mkM h0 B D hi z s) (B + 57) = .inl (0, 20, .inl (s.1 57)) from (mk_cell (fx_lt h (by decide)) (fx_57 h)).1) hi2
theorem sim_57 (h : FX D hi) {i x : Int32} : sI [0] (mkM h0 B D hi z s) (B + 57) i x = (stA 0 s 57 20 i x).map (mkM h0 B D hi z) := by
  unfold stA
  by_cases hi2 : pm_in i 20 = true
  · rw [if_pos hi2]; exact si_57 h hi2
  · rw [if_neg hi2]; exact sI_out (show ps_h (mkM h0 B D hi z s) (B + 57) = .inl (0, 20, .inl (s.1 57)) from (mk_cell (fx_lt h (by decide)) (fx_57 h)).1) hi2
theorem rcm_58 (h : FX D hi) : rcv (mkM h0 B D hi z s) (B + 58) 4 = true := rc_58 h
theorem rdm_58_0 (h : FX D hi) : oI (mkM h0 B D hi z s) (B + 58) 4 0 = some (s.1 58 0) := rd_58_0 h
theorem wrm_58_0 (h : FX D hi) {w : Int32} : wF (mkM h0 B D hi z s) (B + 58) 4 0 .int (.int w) = some (mkM h0 B D hi z (wrI s 58 0 w)) := wr_58_0 h
theorem rdm_58_1 (h : FX D hi) : oR (mkM h0 B D hi z s) (B + 58) 4 1 = some (some (B + 59)) := rd_58_1 h
theorem rdm_58_2 (h : FX D hi) : oR (mkM h0 B D hi z s) (B + 58) 4 2 = some (some (B + 61)) := rd_58_2 h
theorem rdm_58_3 (h : FX D hi) : oR (mkM h0 B D hi z s) (B + 58) 4 3 = some (some (B + 62)) := rd_58_3 h
theorem rdm_58_4 (h : FX D hi) : oR (mkM h0 B D hi z s) (B + 58) 4 4 = some (some (B + 63)) := rd_58_4 h
theorem rdm_58_5 (h : FX D hi) : oR (mkM h0 B D hi z s) (B + 58) 4 5 = some (some (B + 68)) := rd_58_5 h
theorem rdm_58_6 (h : FX D hi) : oR (mkM h0 B D hi z s) (B + 58) 4 6 = some (some (B + 73)) := rd_58_6 h
theorem rdm_58_7 (h : FX D hi) : oR (mkM h0 B D hi z s) (B + 58) 4 7 = some (some (B + 75)) := rd_58_7 h
theorem rdm_58_8 (h : FX D hi) : oR (mkM h0 B D hi z s) (B + 58) 4 8 = some (some (B + 77)) := rd_58_8 h
theorem rdm_58_9 (h : FX D hi) : oR (mkM h0 B D hi z s) (B + 58) 4 9 = some (some (B + 79)) := rd_58_9 h
theorem rdm_58_10 (h : FX D hi) : oR (mkM h0 B D hi z s) (B + 58) 4 10 = some (some (B + 81)) := rd_58_10 h
theorem rdm_58_11 (h : FX D hi) : oR (mkM h0 B D hi z s) (B + 58) 4 11 = some (some (B + 82)) := rd_58_11 h
theorem rcm_59 (h : FX D hi) : rcv (mkM h0 B D hi z s) (B + 59) 2 = true := rc_59 h
theorem rdm_59_0 (h : FX D hi) : oR (mkM h0 B D hi z s) (B + 59) 2 0 = some (some (B + 60)) := rd_59_0 h
theorem rdm_59_1 (h : FX D hi) : oI (mkM h0 B D hi z s) (B + 59) 2 1 = some (s.1 59 1) := rd_59_1 h
theorem wrm_59_1 (h : FX D hi) {w : Int32} : wF (mkM h0 B D hi z s) (B + 59) 2 1 .int (.int w) = some (mkM h0 B D hi z (wrI s 59 1 w)) := wr_59_1 h
theorem rdm_59_2 (h : FX D hi) : oI (mkM h0 B D hi z s) (B + 59) 2 2 = some (s.1 59 2) := rd_59_2 h
theorem wrm_59_2 (h : FX D hi) {w : Int32} : wF (mkM h0 B D hi z s) (B + 59) 2 2 .int (.int w) = some (mkM h0 B D hi z (wrI s 59 2 w)) := wr_59_2 h
theorem anm_60 (h : FX D hi) : aNS (mkM h0 B D hi z s) (B + 60) = some 35 := an_60 h
theorem vam_60 (h : FX D hi) {i : Int32} : F_BP_valueAt N (mkM h0 B D hi z s) (B + 60) i = some (vat 35 (s.1 60) i, mkM h0 B D hi z s) := va_60 h
theorem vsm_60 (h : FX D hi) {i x : Int32} : F_BP_setAt N (mkM h0 B D hi z s) (B + 60) i x = some (mkM h0 B D hi z (vsI s 60 35 i x)) := vs_60 h
theorem aim_60 (h : FX D hi) {i : Int32} : aI [0, 6] (mkM h0 B D hi z s) (B + 60) i = rdA s 60 35 i := by
  unfold rdA
  by_cases hi2 : pm_in i 35 = true
  · rw [if_pos hi2]; exact ai_60 h hi2
  · rw [if_neg hi2]; exact aI_out (show ps_h (mkM h0 B D hi z s) (B + 60) = .inl (0, 35, .inl (s.1 60)) from (mk_cell (fx_lt h (by decide)) (fx_60 h)).1) hi2
theorem sim_60 (h : FX D hi) {i x : Int32} : sI [0] (mkM h0 B D hi z s) (B + 60) i x = (stA 0 s 60 35 i x).map (mkM h0 B D hi z) := by
  unfold stA
  by_cases hi2 : pm_in i 35 = true
  · rw [if_pos hi2]; exact si_60 h hi2
  · rw [if_neg hi2]; exact sI_out (show ps_h (mkM h0 B D hi z s) (B + 60) = .inl (0, 35, .inl (s.1 60)) from (mk_cell (fx_lt h (by decide)) (fx_60 h)).1) hi2
theorem anm_61 (h : FX D hi) : aNS (mkM h0 B D hi z s) (B + 61) = some 8 := an_61 h
theorem vam_61 (h : FX D hi) {i : Int32} : F_BP_valueAt N (mkM h0 B D hi z s) (B + 61) i = some (vat 8 (s.1 61) i, mkM h0 B D hi z s) := va_61 h
theorem vsm_61 (h : FX D hi) {i x : Int32} : F_BP_setAt N (mkM h0 B D hi z s) (B + 61) i x = some (mkM h0 B D hi z (vsI s 61 8 i x)) := vs_61 h
theorem aim_61 (h : FX D hi) {i : Int32} : aI [0, 6] (mkM h0 B D hi z s) (B + 61) i = rdA s 61 8 i := by
  unfold rdA
  by_cases hi2 : pm_in i 8 = true
  · rw [if_pos hi2]; exact ai_61 h hi2
  · rw [if_neg hi2]; exact aI_out (show ps_h (mkM h0 B D hi z s) (B + 61) = .inl (0, 8, .inl (s.1 61)) from (mk_cell (fx_lt h (by decide)) (fx_61 h)).1) hi2
theorem sim_61 (h : FX D hi) {i x : Int32} : sI [0] (mkM h0 B D hi z s) (B + 61) i x = (stA 0 s 61 8 i x).map (mkM h0 B D hi z) := by
  unfold stA
  by_cases hi2 : pm_in i 8 = true
  · rw [if_pos hi2]; exact si_61 h hi2
  · rw [if_neg hi2]; exact sI_out (show ps_h (mkM h0 B D hi z s) (B + 61) = .inl (0, 8, .inl (s.1 61)) from (mk_cell (fx_lt h (by decide)) (fx_61 h)).1) hi2
theorem anm_62 (h : FX D hi) : aNS (mkM h0 B D hi z s) (B + 62) = some 7 := an_62 h
theorem vam_62 (h : FX D hi) {i : Int32} : F_BP_valueAt N (mkM h0 B D hi z s) (B + 62) i = some (vat 7 (s.1 62) i, mkM h0 B D hi z s) := va_62 h
theorem vsm_62 (h : FX D hi) {i x : Int32} : F_BP_setAt N (mkM h0 B D hi z s) (B + 62) i x = some (mkM h0 B D hi z (vsI s 62 7 i x)) := vs_62 h
theorem aim_62 (h : FX D hi) {i : Int32} : aI [0, 6] (mkM h0 B D hi z s) (B + 62) i = rdA s 62 7 i := by
  unfold rdA
  by_cases hi2 : pm_in i 7 = true
  · rw [if_pos hi2]; exact ai_62 h hi2
  · rw [if_neg hi2]; exact aI_out (show ps_h (mkM h0 B D hi z s) (B + 62) = .inl (0, 7, .inl (s.1 62)) from (mk_cell (fx_lt h (by decide)) (fx_62 h)).1) hi2
theorem sim_62 (h : FX D hi) {i x : Int32} : sI [0] (mkM h0 B D hi z s) (B + 62) i x = (stA 0 s 62 7 i x).map (mkM h0 B D hi z) := by
  unfold stA
  by_cases hi2 : pm_in i 7 = true
  · rw [if_pos hi2]; exact si_62 h hi2
  · rw [if_neg hi2]; exact sI_out (show ps_h (mkM h0 B D hi z s) (B + 62) = .inl (0, 7, .inl (s.1 62)) from (mk_cell (fx_lt h (by decide)) (fx_62 h)).1) hi2
theorem rcm_63 (h : FX D hi) : rcv (mkM h0 B D hi z s) (B + 63) 1 = true := rc_63 h
theorem rdm_63_0 (h : FX D hi) : oR (mkM h0 B D hi z s) (B + 63) 1 0 = some (some (B + 64)) := rd_63_0 h
theorem rdm_63_1 (h : FX D hi) : oR (mkM h0 B D hi z s) (B + 63) 1 1 = some (some (B + 65)) := rd_63_1 h
theorem rdm_63_2 (h : FX D hi) : oR (mkM h0 B D hi z s) (B + 63) 1 2 = some (some (B + 66)) := rd_63_2 h
theorem rdm_63_3 (h : FX D hi) : oR (mkM h0 B D hi z s) (B + 63) 1 3 = some (some (B + 67)) := rd_63_3 h
theorem anm_64 (h : FX D hi) : aNS (mkM h0 B D hi z s) (B + 64) = some 56 := an_64 h
theorem vam_64 (h : FX D hi) {i : Int32} : F_BP_valueAt N (mkM h0 B D hi z s) (B + 64) i = some (vat 56 (s.1 64) i, mkM h0 B D hi z s) := va_64 h
theorem vsm_64 (h : FX D hi) {i x : Int32} : F_BP_setAt N (mkM h0 B D hi z s) (B + 64) i x = some (mkM h0 B D hi z (vsI s 64 56 i x)) := vs_64 h
theorem aim_64 (h : FX D hi) {i : Int32} : aI [0, 6] (mkM h0 B D hi z s) (B + 64) i = rdA s 64 56 i := by
  unfold rdA
  by_cases hi2 : pm_in i 56 = true
  · rw [if_pos hi2]; exact ai_64 h hi2
  · rw [if_neg hi2]; exact aI_out (show ps_h (mkM h0 B D hi z s) (B + 64) = .inl (0, 56, .inl (s.1 64)) from (mk_cell (fx_lt h (by decide)) (fx_64 h)).1) hi2
theorem sim_64 (h : FX D hi) {i x : Int32} : sI [0] (mkM h0 B D hi z s) (B + 64) i x = (stA 0 s 64 56 i x).map (mkM h0 B D hi z) := by
  unfold stA
  by_cases hi2 : pm_in i 56 = true
  · rw [if_pos hi2]; exact si_64 h hi2
  · rw [if_neg hi2]; exact sI_out (show ps_h (mkM h0 B D hi z s) (B + 64) = .inl (0, 56, .inl (s.1 64)) from (mk_cell (fx_lt h (by decide)) (fx_64 h)).1) hi2
theorem anm_65 (h : FX D hi) : aNS (mkM h0 B D hi z s) (B + 65) = some 56 := an_65 h
theorem vam_65 (h : FX D hi) {i : Int32} : F_BP_valueAt N (mkM h0 B D hi z s) (B + 65) i = some (vat 56 (s.1 65) i, mkM h0 B D hi z s) := va_65 h
theorem vsm_65 (h : FX D hi) {i x : Int32} : F_BP_setAt N (mkM h0 B D hi z s) (B + 65) i x = some (mkM h0 B D hi z (vsI s 65 56 i x)) := vs_65 h
theorem aim_65 (h : FX D hi) {i : Int32} : aI [0, 6] (mkM h0 B D hi z s) (B + 65) i = rdA s 65 56 i := by
  unfold rdA
  by_cases hi2 : pm_in i 56 = true
  · rw [if_pos hi2]; exact ai_65 h hi2
  · rw [if_neg hi2]; exact aI_out (show ps_h (mkM h0 B D hi z s) (B + 65) = .inl (0, 56, .inl (s.1 65)) from (mk_cell (fx_lt h (by decide)) (fx_65 h)).1) hi2
theorem sim_65 (h : FX D hi) {i x : Int32} : sI [0] (mkM h0 B D hi z s) (B + 65) i x = (stA 0 s 65 56 i x).map (mkM h0 B D hi z) := by
  unfold stA
  by_cases hi2 : pm_in i 56 = true
  · rw [if_pos hi2]; exact si_65 h hi2
  · rw [if_neg hi2]; exact sI_out (show ps_h (mkM h0 B D hi z s) (B + 65) = .inl (0, 56, .inl (s.1 65)) from (mk_cell (fx_lt h (by decide)) (fx_65 h)).1) hi2
theorem anm_66 (h : FX D hi) : aNS (mkM h0 B D hi z s) (B + 66) = some 56 := an_66 h
theorem vam_66 (h : FX D hi) {i : Int32} : F_BP_valueAt N (mkM h0 B D hi z s) (B + 66) i = some (vat 56 (s.1 66) i, mkM h0 B D hi z s) := va_66 h
theorem vsm_66 (h : FX D hi) {i x : Int32} : F_BP_setAt N (mkM h0 B D hi z s) (B + 66) i x = some (mkM h0 B D hi z (vsI s 66 56 i x)) := vs_66 h
theorem aim_66 (h : FX D hi) {i : Int32} : aI [0, 6] (mkM h0 B D hi z s) (B + 66) i = rdA s 66 56 i := by
  unfold rdA
  by_cases hi2 : pm_in i 56 = true
  · rw [if_pos hi2]; exact ai_66 h hi2
  · rw [if_neg hi2]; exact aI_out (show ps_h (mkM h0 B D hi z s) (B + 66) = .inl (0, 56, .inl (s.1 66)) from (mk_cell (fx_lt h (by decide)) (fx_66 h)).1) hi2
theorem sim_66 (h : FX D hi) {i x : Int32} : sI [0] (mkM h0 B D hi z s) (B + 66) i x = (stA 0 s 66 56 i x).map (mkM h0 B D hi z) := by
  unfold stA
  by_cases hi2 : pm_in i 56 = true
  · rw [if_pos hi2]; exact si_66 h hi2
  · rw [if_neg hi2]; exact sI_out (show ps_h (mkM h0 B D hi z s) (B + 66) = .inl (0, 56, .inl (s.1 66)) from (mk_cell (fx_lt h (by decide)) (fx_66 h)).1) hi2
theorem anm_67 (h : FX D hi) : aNS (mkM h0 B D hi z s) (B + 67) = some 10 := an_67 h
theorem vam_67 (h : FX D hi) {i : Int32} : F_BP_valueAt N (mkM h0 B D hi z s) (B + 67) i = some (vat 10 (s.1 67) i, mkM h0 B D hi z s) := va_67 h
theorem vsm_67 (h : FX D hi) {i x : Int32} : F_BP_setAt N (mkM h0 B D hi z s) (B + 67) i x = some (mkM h0 B D hi z (vsI s 67 10 i x)) := vs_67 h
theorem aim_67 (h : FX D hi) {i : Int32} : aI [0, 6] (mkM h0 B D hi z s) (B + 67) i = rdA s 67 10 i := by
  unfold rdA
  by_cases hi2 : pm_in i 10 = true
  · rw [if_pos hi2]; exact ai_67 h hi2
  · rw [if_neg hi2]; exact aI_out (show ps_h (mkM h0 B D hi z s) (B + 67) = .inl (0, 10, .inl (s.1 67)) from (mk_cell (fx_lt h (by decide)) (fx_67 h)).1) hi2
theorem sim_67 (h : FX D hi) {i x : Int32} : sI [0] (mkM h0 B D hi z s) (B + 67) i x = (stA 0 s 67 10 i x).map (mkM h0 B D hi z) := by
  unfold stA
  by_cases hi2 : pm_in i 10 = true
  · rw [if_pos hi2]; exact si_67 h hi2
  · rw [if_neg hi2]; exact sI_out (show ps_h (mkM h0 B D hi z s) (B + 67) = .inl (0, 10, .inl (s.1 67)) from (mk_cell (fx_lt h (by decide)) (fx_67 h)).1) hi2
theorem rcm_68 (h : FX D hi) : rcv (mkM h0 B D hi z s) (B + 68) 1 = true := rc_68 h
theorem rdm_68_0 (h : FX D hi) : oR (mkM h0 B D hi z s) (B + 68) 1 0 = some (some (B + 69)) := rd_68_0 h
theorem rdm_68_1 (h : FX D hi) : oR (mkM h0 B D hi z s) (B + 68) 1 1 = some (some (B + 70)) := rd_68_1 h
theorem rdm_68_2 (h : FX D hi) : oR (mkM h0 B D hi z s) (B + 68) 1 2 = some (some (B + 71)) := rd_68_2 h
theorem rdm_68_3 (h : FX D hi) : oR (mkM h0 B D hi z s) (B + 68) 1 3 = some (some (B + 72)) := rd_68_3 h
theorem anm_69 (h : FX D hi) : aNS (mkM h0 B D hi z s) (B + 69) = some 56 := an_69 h
theorem vam_69 (h : FX D hi) {i : Int32} : F_BP_valueAt N (mkM h0 B D hi z s) (B + 69) i = some (vat 56 (s.1 69) i, mkM h0 B D hi z s) := va_69 h
theorem vsm_69 (h : FX D hi) {i x : Int32} : F_BP_setAt N (mkM h0 B D hi z s) (B + 69) i x = some (mkM h0 B D hi z (vsI s 69 56 i x)) := vs_69 h
theorem aim_69 (h : FX D hi) {i : Int32} : aI [0, 6] (mkM h0 B D hi z s) (B + 69) i = rdA s 69 56 i := by
  unfold rdA
  by_cases hi2 : pm_in i 56 = true
  · rw [if_pos hi2]; exact ai_69 h hi2
  · rw [if_neg hi2]; exact aI_out (show ps_h (mkM h0 B D hi z s) (B + 69) = .inl (0, 56, .inl (s.1 69)) from (mk_cell (fx_lt h (by decide)) (fx_69 h)).1) hi2
theorem sim_69 (h : FX D hi) {i x : Int32} : sI [0] (mkM h0 B D hi z s) (B + 69) i x = (stA 0 s 69 56 i x).map (mkM h0 B D hi z) := by
  unfold stA
  by_cases hi2 : pm_in i 56 = true
  · rw [if_pos hi2]; exact si_69 h hi2
  · rw [if_neg hi2]; exact sI_out (show ps_h (mkM h0 B D hi z s) (B + 69) = .inl (0, 56, .inl (s.1 69)) from (mk_cell (fx_lt h (by decide)) (fx_69 h)).1) hi2
theorem anm_70 (h : FX D hi) : aNS (mkM h0 B D hi z s) (B + 70) = some 56 := an_70 h
theorem vam_70 (h : FX D hi) {i : Int32} : F_BP_valueAt N (mkM h0 B D hi z s) (B + 70) i = some (vat 56 (s.1 70) i, mkM h0 B D hi z s) := va_70 h
theorem vsm_70 (h : FX D hi) {i x : Int32} : F_BP_setAt N (mkM h0 B D hi z s) (B + 70) i x = some (mkM h0 B D hi z (vsI s 70 56 i x)) := vs_70 h
theorem aim_70 (h : FX D hi) {i : Int32} : aI [0, 6] (mkM h0 B D hi z s) (B + 70) i = rdA s 70 56 i := by
  unfold rdA
  by_cases hi2 : pm_in i 56 = true
  · rw [if_pos hi2]; exact ai_70 h hi2
  · rw [if_neg hi2]; exact aI_out (show ps_h (mkM h0 B D hi z s) (B + 70) = .inl (0, 56, .inl (s.1 70)) from (mk_cell (fx_lt h (by decide)) (fx_70 h)).1) hi2
theorem sim_70 (h : FX D hi) {i x : Int32} : sI [0] (mkM h0 B D hi z s) (B + 70) i x = (stA 0 s 70 56 i x).map (mkM h0 B D hi z) := by
  unfold stA
  by_cases hi2 : pm_in i 56 = true
  · rw [if_pos hi2]; exact si_70 h hi2
  · rw [if_neg hi2]; exact sI_out (show ps_h (mkM h0 B D hi z s) (B + 70) = .inl (0, 56, .inl (s.1 70)) from (mk_cell (fx_lt h (by decide)) (fx_70 h)).1) hi2
theorem anm_71 (h : FX D hi) : aNS (mkM h0 B D hi z s) (B + 71) = some 56 := an_71 h
theorem vam_71 (h : FX D hi) {i : Int32} : F_BP_valueAt N (mkM h0 B D hi z s) (B + 71) i = some (vat 56 (s.1 71) i, mkM h0 B D hi z s) := va_71 h
theorem vsm_71 (h : FX D hi) {i x : Int32} : F_BP_setAt N (mkM h0 B D hi z s) (B + 71) i x = some (mkM h0 B D hi z (vsI s 71 56 i x)) := vs_71 h
theorem aim_71 (h : FX D hi) {i : Int32} : aI [0, 6] (mkM h0 B D hi z s) (B + 71) i = rdA s 71 56 i := by
  unfold rdA
  by_cases hi2 : pm_in i 56 = true
  · rw [if_pos hi2]; exact ai_71 h hi2
  · rw [if_neg hi2]; exact aI_out (show ps_h (mkM h0 B D hi z s) (B + 71) = .inl (0, 56, .inl (s.1 71)) from (mk_cell (fx_lt h (by decide)) (fx_71 h)).1) hi2
theorem sim_71 (h : FX D hi) {i x : Int32} : sI [0] (mkM h0 B D hi z s) (B + 71) i x = (stA 0 s 71 56 i x).map (mkM h0 B D hi z) := by
  unfold stA
  by_cases hi2 : pm_in i 56 = true
  · rw [if_pos hi2]; exact si_71 h hi2
  · rw [if_neg hi2]; exact sI_out (show ps_h (mkM h0 B D hi z s) (B + 71) = .inl (0, 56, .inl (s.1 71)) from (mk_cell (fx_lt h (by decide)) (fx_71 h)).1) hi2
theorem anm_72 (h : FX D hi) : aNS (mkM h0 B D hi z s) (B + 72) = some 10 := an_72 h
theorem vam_72 (h : FX D hi) {i : Int32} : F_BP_valueAt N (mkM h0 B D hi z s) (B + 72) i = some (vat 10 (s.1 72) i, mkM h0 B D hi z s) := va_72 h
theorem vsm_72 (h : FX D hi) {i x : Int32} : F_BP_setAt N (mkM h0 B D hi z s) (B + 72) i x = some (mkM h0 B D hi z (vsI s 72 10 i x)) := vs_72 h
theorem aim_72 (h : FX D hi) {i : Int32} : aI [0, 6] (mkM h0 B D hi z s) (B + 72) i = rdA s 72 10 i := by
  unfold rdA
  by_cases hi2 : pm_in i 10 = true
  · rw [if_pos hi2]; exact ai_72 h hi2
  · rw [if_neg hi2]; exact aI_out (show ps_h (mkM h0 B D hi z s) (B + 72) = .inl (0, 10, .inl (s.1 72)) from (mk_cell (fx_lt h (by decide)) (fx_72 h)).1) hi2
theorem sim_72 (h : FX D hi) {i x : Int32} : sI [0] (mkM h0 B D hi z s) (B + 72) i x = (stA 0 s 72 10 i x).map (mkM h0 B D hi z) := by
  unfold stA
  by_cases hi2 : pm_in i 10 = true
  · rw [if_pos hi2]; exact si_72 h hi2
  · rw [if_neg hi2]; exact sI_out (show ps_h (mkM h0 B D hi z s) (B + 72) = .inl (0, 10, .inl (s.1 72)) from (mk_cell (fx_lt h (by decide)) (fx_72 h)).1) hi2
theorem rcm_73 (h : FX D hi) : rcv (mkM h0 B D hi z s) (B + 73) 2 = true := rc_73 h
theorem rdm_73_0 (h : FX D hi) : oR (mkM h0 B D hi z s) (B + 73) 2 0 = some (some (B + 74)) := rd_73_0 h
theorem rdm_73_1 (h : FX D hi) : oI (mkM h0 B D hi z s) (B + 73) 2 1 = some (s.1 73 1) := rd_73_1 h
theorem wrm_73_1 (h : FX D hi) {w : Int32} : wF (mkM h0 B D hi z s) (B + 73) 2 1 .int (.int w) = some (mkM h0 B D hi z (wrI s 73 1 w)) := wr_73_1 h
theorem rdm_73_2 (h : FX D hi) : oI (mkM h0 B D hi z s) (B + 73) 2 2 = some (s.1 73 2) := rd_73_2 h
theorem wrm_73_2 (h : FX D hi) {w : Int32} : wF (mkM h0 B D hi z s) (B + 73) 2 2 .int (.int w) = some (mkM h0 B D hi z (wrI s 73 2 w)) := wr_73_2 h
theorem anm_74 (h : FX D hi) : aNS (mkM h0 B D hi z s) (B + 74) = some 30 := an_74 h
theorem vam_74 (h : FX D hi) {i : Int32} : F_BP_valueAt N (mkM h0 B D hi z s) (B + 74) i = some (vat 30 (s.1 74) i, mkM h0 B D hi z s) := va_74 h
theorem vsm_74 (h : FX D hi) {i x : Int32} : F_BP_setAt N (mkM h0 B D hi z s) (B + 74) i x = some (mkM h0 B D hi z (vsI s 74 30 i x)) := vs_74 h
theorem aim_74 (h : FX D hi) {i : Int32} : aI [0, 6] (mkM h0 B D hi z s) (B + 74) i = rdA s 74 30 i := by
  unfold rdA
  by_cases hi2 : pm_in i 30 = true
  · rw [if_pos hi2]; exact ai_74 h hi2
  · rw [if_neg hi2]; exact aI_out (show ps_h (mkM h0 B D hi z s) (B + 74) = .inl (0, 30, .inl (s.1 74)) from (mk_cell (fx_lt h (by decide)) (fx_74 h)).1) hi2
theorem sim_74 (h : FX D hi) {i x : Int32} : sI [0] (mkM h0 B D hi z s) (B + 74) i x = (stA 0 s 74 30 i x).map (mkM h0 B D hi z) := by
  unfold stA
  by_cases hi2 : pm_in i 30 = true
  · rw [if_pos hi2]; exact si_74 h hi2
  · rw [if_neg hi2]; exact sI_out (show ps_h (mkM h0 B D hi z s) (B + 74) = .inl (0, 30, .inl (s.1 74)) from (mk_cell (fx_lt h (by decide)) (fx_74 h)).1) hi2
theorem rcm_75 (h : FX D hi) : rcv (mkM h0 B D hi z s) (B + 75) 2 = true := rc_75 h
theorem rdm_75_0 (h : FX D hi) : oR (mkM h0 B D hi z s) (B + 75) 2 0 = some (some (B + 76)) := rd_75_0 h
theorem rdm_75_1 (h : FX D hi) : oI (mkM h0 B D hi z s) (B + 75) 2 1 = some (s.1 75 1) := rd_75_1 h
theorem wrm_75_1 (h : FX D hi) {w : Int32} : wF (mkM h0 B D hi z s) (B + 75) 2 1 .int (.int w) = some (mkM h0 B D hi z (wrI s 75 1 w)) := wr_75_1 h
theorem rdm_75_2 (h : FX D hi) : oI (mkM h0 B D hi z s) (B + 75) 2 2 = some (s.1 75 2) := rd_75_2 h
theorem wrm_75_2 (h : FX D hi) {w : Int32} : wF (mkM h0 B D hi z s) (B + 75) 2 2 .int (.int w) = some (mkM h0 B D hi z (wrI s 75 2 w)) := wr_75_2 h
theorem anm_76 (h : FX D hi) : aNS (mkM h0 B D hi z s) (B + 76) = some 50 := an_76 h
theorem vam_76 (h : FX D hi) {i : Int32} : F_BP_valueAt N (mkM h0 B D hi z s) (B + 76) i = some (vat 50 (s.1 76) i, mkM h0 B D hi z s) := va_76 h
theorem vsm_76 (h : FX D hi) {i x : Int32} : F_BP_setAt N (mkM h0 B D hi z s) (B + 76) i x = some (mkM h0 B D hi z (vsI s 76 50 i x)) := vs_76 h
theorem aim_76 (h : FX D hi) {i : Int32} : aI [0, 6] (mkM h0 B D hi z s) (B + 76) i = rdA s 76 50 i := by
  unfold rdA
  by_cases hi2 : pm_in i 50 = true
  · rw [if_pos hi2]; exact ai_76 h hi2
  · rw [if_neg hi2]; exact aI_out (show ps_h (mkM h0 B D hi z s) (B + 76) = .inl (0, 50, .inl (s.1 76)) from (mk_cell (fx_lt h (by decide)) (fx_76 h)).1) hi2
theorem sim_76 (h : FX D hi) {i x : Int32} : sI [0] (mkM h0 B D hi z s) (B + 76) i x = (stA 0 s 76 50 i x).map (mkM h0 B D hi z) := by
  unfold stA
  by_cases hi2 : pm_in i 50 = true
  · rw [if_pos hi2]; exact si_76 h hi2
  · rw [if_neg hi2]; exact sI_out (show ps_h (mkM h0 B D hi z s) (B + 76) = .inl (0, 50, .inl (s.1 76)) from (mk_cell (fx_lt h (by decide)) (fx_76 h)).1) hi2
theorem rcm_77 (h : FX D hi) : rcv (mkM h0 B D hi z s) (B + 77) 2 = true := rc_77 h
theorem rdm_77_0 (h : FX D hi) : oR (mkM h0 B D hi z s) (B + 77) 2 0 = some (some (B + 78)) := rd_77_0 h
theorem rdm_77_1 (h : FX D hi) : oI (mkM h0 B D hi z s) (B + 77) 2 1 = some (s.1 77 1) := rd_77_1 h
theorem wrm_77_1 (h : FX D hi) {w : Int32} : wF (mkM h0 B D hi z s) (B + 77) 2 1 .int (.int w) = some (mkM h0 B D hi z (wrI s 77 1 w)) := wr_77_1 h
theorem rdm_77_2 (h : FX D hi) : oI (mkM h0 B D hi z s) (B + 77) 2 2 = some (s.1 77 2) := rd_77_2 h
theorem wrm_77_2 (h : FX D hi) {w : Int32} : wF (mkM h0 B D hi z s) (B + 77) 2 2 .int (.int w) = some (mkM h0 B D hi z (wrI s 77 2 w)) := wr_77_2 h
theorem anm_78 (h : FX D hi) : aNS (mkM h0 B D hi z s) (B + 78) = some 60 := an_78 h
theorem vam_78 (h : FX D hi) {i : Int32} : F_BP_valueAt N (mkM h0 B D hi z s) (B + 78) i = some (vat 60 (s.1 78) i, mkM h0 B D hi z s) := va_78 h
theorem vsm_78 (h : FX D hi) {i x : Int32} : F_BP_setAt N (mkM h0 B D hi z s) (B + 78) i x = some (mkM h0 B D hi z (vsI s 78 60 i x)) := vs_78 h
theorem aim_78 (h : FX D hi) {i : Int32} : aI [0, 6] (mkM h0 B D hi z s) (B + 78) i = rdA s 78 60 i := by
  unfold rdA
  by_cases hi2 : pm_in i 60 = true
  · rw [if_pos hi2]; exact ai_78 h hi2
  · rw [if_neg hi2]; exact aI_out (show ps_h (mkM h0 B D hi z s) (B + 78) = .inl (0, 60, .inl (s.1 78)) from (mk_cell (fx_lt h (by decide)) (fx_78 h)).1) hi2
theorem sim_78 (h : FX D hi) {i x : Int32} : sI [0] (mkM h0 B D hi z s) (B + 78) i x = (stA 0 s 78 60 i x).map (mkM h0 B D hi z) := by
  unfold stA
  by_cases hi2 : pm_in i 60 = true
  · rw [if_pos hi2]; exact si_78 h hi2
  · rw [if_neg hi2]; exact sI_out (show ps_h (mkM h0 B D hi z s) (B + 78) = .inl (0, 60, .inl (s.1 78)) from (mk_cell (fx_lt h (by decide)) (fx_78 h)).1) hi2
theorem rcm_79 (h : FX D hi) : rcv (mkM h0 B D hi z s) (B + 79) 2 = true := rc_79 h
theorem rdm_79_0 (h : FX D hi) : oR (mkM h0 B D hi z s) (B + 79) 2 0 = some (some (B + 80)) := rd_79_0 h
theorem rdm_79_1 (h : FX D hi) : oI (mkM h0 B D hi z s) (B + 79) 2 1 = some (s.1 79 1) := rd_79_1 h
theorem wrm_79_1 (h : FX D hi) {w : Int32} : wF (mkM h0 B D hi z s) (B + 79) 2 1 .int (.int w) = some (mkM h0 B D hi z (wrI s 79 1 w)) := wr_79_1 h
theorem rdm_79_2 (h : FX D hi) : oI (mkM h0 B D hi z s) (B + 79) 2 2 = some (s.1 79 2) := rd_79_2 h
theorem wrm_79_2 (h : FX D hi) {w : Int32} : wF (mkM h0 B D hi z s) (B + 79) 2 2 .int (.int w) = some (mkM h0 B D hi z (wrI s 79 2 w)) := wr_79_2 h
theorem anm_80 (h : FX D hi) : aNS (mkM h0 B D hi z s) (B + 80) = some 120 := an_80 h
theorem vam_80 (h : FX D hi) {i : Int32} : F_BP_valueAt N (mkM h0 B D hi z s) (B + 80) i = some (vat 120 (s.1 80) i, mkM h0 B D hi z s) := va_80 h
theorem vsm_80 (h : FX D hi) {i x : Int32} : F_BP_setAt N (mkM h0 B D hi z s) (B + 80) i x = some (mkM h0 B D hi z (vsI s 80 120 i x)) := vs_80 h
theorem aim_80 (h : FX D hi) {i : Int32} : aI [0, 6] (mkM h0 B D hi z s) (B + 80) i = rdA s 80 120 i := by
  unfold rdA
  by_cases hi2 : pm_in i 120 = true
  · rw [if_pos hi2]; exact ai_80 h hi2
  · rw [if_neg hi2]; exact aI_out (show ps_h (mkM h0 B D hi z s) (B + 80) = .inl (0, 120, .inl (s.1 80)) from (mk_cell (fx_lt h (by decide)) (fx_80 h)).1) hi2
theorem sim_80 (h : FX D hi) {i x : Int32} : sI [0] (mkM h0 B D hi z s) (B + 80) i x = (stA 0 s 80 120 i x).map (mkM h0 B D hi z) := by
  unfold stA
  by_cases hi2 : pm_in i 120 = true
  · rw [if_pos hi2]; exact si_80 h hi2
  · rw [if_neg hi2]; exact sI_out (show ps_h (mkM h0 B D hi z s) (B + 80) = .inl (0, 120, .inl (s.1 80)) from (mk_cell (fx_lt h (by decide)) (fx_80 h)).1) hi2
theorem anm_81 (h : FX D hi) : aNS (mkM h0 B D hi z s) (B + 81) = some 10 := an_81 h
theorem vam_81 (h : FX D hi) {i : Int32} : F_BP_valueAt N (mkM h0 B D hi z s) (B + 81) i = some (vat 10 (s.1 81) i, mkM h0 B D hi z s) := va_81 h
theorem vsm_81 (h : FX D hi) {i x : Int32} : F_BP_setAt N (mkM h0 B D hi z s) (B + 81) i x = some (mkM h0 B D hi z (vsI s 81 10 i x)) := vs_81 h
theorem aim_81 (h : FX D hi) {i : Int32} : aI [0, 6] (mkM h0 B D hi z s) (B + 81) i = rdA s 81 10 i := by
  unfold rdA
  by_cases hi2 : pm_in i 10 = true
  · rw [if_pos hi2]; exact ai_81 h hi2
  · rw [if_neg hi2]; exact aI_out (show ps_h (mkM h0 B D hi z s) (B + 81) = .inl (0, 10, .inl (s.1 81)) from (mk_cell (fx_lt h (by decide)) (fx_81 h)).1) hi2
theorem sim_81 (h : FX D hi) {i x : Int32} : sI [0] (mkM h0 B D hi z s) (B + 81) i x = (stA 0 s 81 10 i x).map (mkM h0 B D hi z) := by
  unfold stA
  by_cases hi2 : pm_in i 10 = true
  · rw [if_pos hi2]; exact si_81 h hi2
  · rw [if_neg hi2]; exact sI_out (show ps_h (mkM h0 B D hi z s) (B + 81) = .inl (0, 10, .inl (s.1 81)) from (mk_cell (fx_lt h (by decide)) (fx_81 h)).1) hi2
theorem rcm_82 (h : FX D hi) : rcv (mkM h0 B D hi z s) (B + 82) 5 = true := rc_82 h
theorem rdm_82_0 (h : FX D hi) : oR (mkM h0 B D hi z s) (B + 82) 5 0 = some (some (B + 83)) := rd_82_0 h
theorem rdm_82_1 (h : FX D hi) : oR (mkM h0 B D hi z s) (B + 82) 5 1 = some (some (B + 84)) := rd_82_1 h
theorem rdm_82_2 (h : FX D hi) : oI (mkM h0 B D hi z s) (B + 82) 5 2 = some (s.1 82 2) := rd_82_2 h
theorem wrm_82_2 (h : FX D hi) {w : Int32} : wF (mkM h0 B D hi z s) (B + 82) 5 2 .int (.int w) = some (mkM h0 B D hi z (wrI s 82 2 w)) := wr_82_2 h
theorem rdm_82_3 (h : FX D hi) : oI (mkM h0 B D hi z s) (B + 82) 5 3 = some (s.1 82 3) := rd_82_3 h
theorem wrm_82_3 (h : FX D hi) {w : Int32} : wF (mkM h0 B D hi z s) (B + 82) 5 3 .int (.int w) = some (mkM h0 B D hi z (wrI s 82 3 w)) := wr_82_3 h
theorem rdm_82_4 (h : FX D hi) : oI (mkM h0 B D hi z s) (B + 82) 5 4 = some (s.1 82 4) := rd_82_4 h
theorem anm_84 (h : FX D hi) : aNS (mkM h0 B D hi z s) (B + 84) = some 1024 := an_84 h
theorem vam_84 (h : FX D hi) {i : Int32} : F_BP_valueAt N (mkM h0 B D hi z s) (B + 84) i = some (vat 1024 (s.1 84) i, mkM h0 B D hi z s) := va_84 h
theorem vsm_84 (h : FX D hi) {i x : Int32} : F_BP_setAt N (mkM h0 B D hi z s) (B + 84) i x = some (mkM h0 B D hi z (vsI s 84 1024 i x)) := vs_84 h
theorem aim_84 (h : FX D hi) {i : Int32} : aI [0, 6] (mkM h0 B D hi z s) (B + 84) i = rdA s 84 1024 i := by
  unfold rdA
  by_cases hi2 : pm_in i 1024 = true
  · rw [if_pos hi2]; exact ai_84 h hi2
  · rw [if_neg hi2]; exact aI_out (show ps_h (mkM h0 B D hi z s) (B + 84) = .inl (0, 1024, .inl (s.1 84)) from (mk_cell (fx_lt h (by decide)) (fx_84 h)).1) hi2
theorem sim_84 (h : FX D hi) {i x : Int32} : sI [0] (mkM h0 B D hi z s) (B + 84) i x = (stA 0 s 84 1024 i x).map (mkM h0 B D hi z) := by
  unfold stA
  by_cases hi2 : pm_in i 1024 = true
  · rw [if_pos hi2]; exact si_84 h hi2
  · rw [if_neg hi2]; exact sI_out (show ps_h (mkM h0 B D hi z s) (B + 84) = .inl (0, 1024, .inl (s.1 84)) from (mk_cell (fx_lt h (by decide)) (fx_84 h)).1) hi2
end CRD
