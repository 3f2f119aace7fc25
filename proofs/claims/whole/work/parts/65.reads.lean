/-! ===== the reference over the contents of its cells (written by wip/whole/gen/ggen.py) ===== -/
/-- ints and longs of the cells -/
abbrev mst : Type := (Nat → Nat → Int32) × (Nat → Nat → Int64)
def mkM (h0 : Nat → pm_C) (B : Nat) (D : Nat → pd) (hi z : Nat) (s : mst) : pm_S := mkS h0 B D s.1 s.2 hi z
def cvM {α : Type} (h0 : Nat → pm_C) (B : Nat) (D : Nat → pd) (hi z : Nat) (r : α × mst) : α × pm_S := (r.1, mkM h0 B D hi z r.2)
def rdA (s : mst) (k n : Nat) (i : Int32) : Option Int32 := if pm_in i n = true then some (s.1 k i.toNatClampNeg) else none
def rdJ (s : mst) (k n : Nat) (i : Int32) : Option Int64 := if pm_in i n = true then some (s.2 k i.toNatClampNeg) else none
def stA (t : Nat) (s : mst) (k n : Nat) (i x : Int32) : Option mst := if pm_in i n = true then some (up1 s.1 k (upd (s.1 k) i.toNatClampNeg (pm_nar t x)), s.2) else none
def stJ (s : mst) (k n : Nat) (i : Int32) (x : Int64) : Option mst := if pm_in i n = true then some (s.1, up1 s.2 k (vp_updL (s.2 k) i.toNatClampNeg x)) else none
def wrI (s : mst) (k j : Nat) (x : Int32) : mst := (up1 s.1 k (upd (s.1 k) j x), s.2)
def wrZ (s : mst) (k j : Nat) (x : Int32) : Option mst := if x = 0 ∨ x = 1 then some (wrI s k j x) else none
theorem aI_out {ts : List Nat} {S : pm_S} {a t n : Nat} {f : Nat → Int32} {i : Int32} (h : ps_h S a = .inl (t, n, .inl f)) (hi : ¬ pm_in i n = true) : aI ts S a i = none := by
  unfold aI
  rw [h]
  dsimp only
  rw [if_neg (by simp [hi])]
theorem sI_out {ts : List Nat} {S : pm_S} {a t n : Nat} {f : Nat → Int32} {i x : Int32} (h : ps_h S a = .inl (t, n, .inl f)) (hi : ¬ pm_in i n = true) : sI ts S a i x = none := by
  unfold sI
  rw [h]
  dsimp only
  rw [if_neg (by simp [hi])]
theorem aJ_out {S : pm_S} {a t n : Nat} {f : Nat → Int64} {i : Int32} (h : ps_h S a = .inl (t, n, .inr (.inl f))) (hi : ¬ pm_in i n = true) : aJ S a i = none := by
  unfold aJ
  rw [h]
  dsimp only
  rw [if_neg (by simp [hi])]
theorem sJ_out {S : pm_S} {a t n : Nat} {f : Nat → Int64} {i : Int32} {x : Int64} (h : ps_h S a = .inl (t, n, .inr (.inl f))) (hi : ¬ pm_in i n = true) : sJ S a i x = none := by
  unfold sJ
  rw [h]
  dsimp only
  rw [if_neg (by simp [hi])]
section MRD
variable {h0 : Nat → pm_C} {B : Nat} {D : Nat → pd} {hi z : Nat} {s : mst}
theorem rcm_85 (h : FX D hi) : rcv (mkM h0 B D hi z s) (B + 85) 11 = true := rc_85 h
theorem rdm_85_0 (h : FX D hi) : oI (mkM h0 B D hi z s) (B + 85) 11 0 = some (s.1 85 0) := rd_85_0 h
theorem wrm_85_0 (h : FX D hi) {w : Int32} : wF (mkM h0 B D hi z s) (B + 85) 11 0 .int (.int w) = some (mkM h0 B D hi z (wrI s 85 0 w)) := wr_85_0 h
theorem rdm_85_1 (h : FX D hi) : oR (mkM h0 B D hi z s) (B + 85) 11 1 = some (some (B + 86)) := rd_85_1 h
theorem rdm_85_2 (h : FX D hi) : oI (mkM h0 B D hi z s) (B + 85) 11 2 = some (s.1 85 2) := rd_85_2 h
theorem wrm_85_2 (h : FX D hi) {w : Int32} : wF (mkM h0 B D hi z s) (B + 85) 11 2 .int (.int w) = some (mkM h0 B D hi z (wrI s 85 2 w)) := wr_85_2 h
theorem rdm_85_3 (h : FX D hi) : oI (mkM h0 B D hi z s) (B + 85) 11 3 = some (s.1 85 3) := rd_85_3 h
theorem wrm_85_3 (h : FX D hi) {w : Int32} : wF (mkM h0 B D hi z s) (B + 85) 11 3 .int (.int w) = some (mkM h0 B D hi z (wrI s 85 3 w)) := wr_85_3 h
theorem rdm_85_4 (h : FX D hi) : oI (mkM h0 B D hi z s) (B + 85) 11 4 = some (s.1 85 4) := rd_85_4 h
theorem wrm_85_4 (h : FX D hi) {w : Int32} : wF (mkM h0 B D hi z s) (B + 85) 11 4 .int (.int w) = some (mkM h0 B D hi z (wrI s 85 4 w)) := wr_85_4 h
theorem rdm_85_5 (h : FX D hi) : oI (mkM h0 B D hi z s) (B + 85) 11 5 = some (s.1 85 5) := rd_85_5 h
theorem wrm_85_5 (h : FX D hi) {w : Int32} : wF (mkM h0 B D hi z s) (B + 85) 11 5 .int (.int w) = some (mkM h0 B D hi z (wrI s 85 5 w)) := wr_85_5 h
theorem rdm_85_6 (h : FX D hi) : oR (mkM h0 B D hi z s) (B + 85) 11 6 = some (some (B + 87)) := rd_85_6 h
theorem rdm_85_7 (h : FX D hi) : oR (mkM h0 B D hi z s) (B + 85) 11 7 = some (some (B + 88)) := rd_85_7 h
theorem rdm_85_8 (h : FX D hi) : oR (mkM h0 B D hi z s) (B + 85) 11 8 = some (some (B + 89)) := rd_85_8 h
theorem rdm_85_9 (h : FX D hi) : oR (mkM h0 B D hi z s) (B + 85) 11 9 = some (some (B + 90)) := rd_85_9 h
theorem rdm_85_10 (h : FX D hi) : oR (mkM h0 B D hi z s) (B + 85) 11 10 = some (some (B + 91)) := rd_85_10 h
theorem rdm_85_11 (h : FX D hi) : oR (mkM h0 B D hi z s) (B + 85) 11 11 = some (some (B + 92)) := rd_85_11 h
theorem rdm_85_12 (h : FX D hi) : oR (mkM h0 B D hi z s) (B + 85) 11 12 = some (some (B + 93)) := rd_85_12 h
theorem rdm_85_13 (h : FX D hi) : oR (mkM h0 B D hi z s) (B + 85) 11 13 = some (some (B + 94)) := rd_85_13 h
theorem rdm_85_14 (h : FX D hi) : oR (mkM h0 B D hi z s) (B + 85) 11 14 = some (some (B + 95)) := rd_85_14 h
theorem rdm_85_15 (h : FX D hi) : oR (mkM h0 B D hi z s) (B + 85) 11 15 = some (some (B + 96)) := rd_85_15 h
theorem rdm_85_16 (h : FX D hi) : oR (mkM h0 B D hi z s) (B + 85) 11 16 = some (some (B + 97)) := rd_85_16 h
theorem rdm_85_17 (h : FX D hi) : oR (mkM h0 B D hi z s) (B + 85) 11 17 = some (some (B + 98)) := rd_85_17 h
theorem rdm_85_18 (h : FX D hi) : oR (mkM h0 B D hi z s) (B + 85) 11 18 = some (some (B + 99)) := rd_85_18 h
theorem rdm_85_19 (h : FX D hi) : oI (mkM h0 B D hi z s) (B + 85) 11 19 = some (s.1 85 19) := rd_85_19 h
theorem wrm_85_19 (h : FX D hi) {w : Int32} : wF (mkM h0 B D hi z s) (B + 85) 11 19 .int (.int w) = some (mkM h0 B D hi z (wrI s 85 19 w)) := wr_85_19 h
theorem rdm_85_20 (h : FX D hi) : oR (mkM h0 B D hi z s) (B + 85) 11 20 = some (some (B + 100)) := rd_85_20 h
theorem rdm_85_21 (h : FX D hi) : oR (mkM h0 B D hi z s) (B + 85) 11 21 = some (some (B + 101)) := rd_85_21 h
theorem rdm_85_22 (h : FX D hi) : oR (mkM h0 B D hi z s) (B + 85) 11 22 = some (some (B + 102)) := rd_85_22 h
theorem rdm_85_23 (h : FX D hi) : oR (mkM h0 B D hi z s) (B + 85) 11 23 = some (some (B + 103)) := rd_85_23 h
theorem rdm_85_24 (h : FX D hi) : oR (mkM h0 B D hi z s) (B + 85) 11 24 = some (some (B + 104)) := rd_85_24 h
theorem rdm_85_25 (h : FX D hi) : oR (mkM h0 B D hi z s) (B + 85) 11 25 = some (some (B + 105)) := rd_85_25 h
theorem rdm_85_26 (h : FX D hi) : oR (mkM h0 B D hi z s) (B + 85) 11 26 = some (some (B + 106)) := rd_85_26 h
theorem rdm_85_27 (h : FX D hi) : oR (mkM h0 B D hi z s) (B + 85) 11 27 = some (some (B + 107)) := rd_85_27 h
theorem rdm_85_28 (h : FX D hi) : oR (mkM h0 B D hi z s) (B + 85) 11 28 = some (some (B + 108)) := rd_85_28 h
theorem rdm_85_29 (h : FX D hi) : oI (mkM h0 B D hi z s) (B + 85) 11 29 = some (s.1 85 29) := rd_85_29 h
theorem wrm_85_29 (h : FX D hi) {w : Int32} : wF (mkM h0 B D hi z s) (B + 85) 11 29 .int (.int w) = some (mkM h0 B D hi z (wrI s 85 29 w)) := wr_85_29 h
theorem rdm_85_30 (h : FX D hi) : oI (mkM h0 B D hi z s) (B + 85) 11 30 = some (s.1 85 30) := rd_85_30 h
theorem wrm_85_30 (h : FX D hi) {w : Int32} : wF (mkM h0 B D hi z s) (B + 85) 11 30 .int (.int w) = some (mkM h0 B D hi z (wrI s 85 30 w)) := wr_85_30 h
theorem rdm_85_31 (h : FX D hi) : oI (mkM h0 B D hi z s) (B + 85) 11 31 = some (s.1 85 31) := rd_85_31 h
theorem wrm_85_31 (h : FX D hi) {w : Int32} : wF (mkM h0 B D hi z s) (B + 85) 11 31 .int (.int w) = some (mkM h0 B D hi z (wrI s 85 31 w)) := wr_85_31 h
theorem rdm_85_32 (h : FX D hi) : oI (mkM h0 B D hi z s) (B + 85) 11 32 = some (s.1 85 32) := rd_85_32 h
theorem wrm_85_32 (h : FX D hi) {w : Int32} : wF (mkM h0 B D hi z s) (B + 85) 11 32 .int (.int w) = some (mkM h0 B D hi z (wrI s 85 32 w)) := wr_85_32 h
theorem rdm_85_33 (h : FX D hi) : oI (mkM h0 B D hi z s) (B + 85) 11 33 = some (s.1 85 33) := rd_85_33 h
theorem wrm_85_33 (h : FX D hi) {w : Int32} : wF (mkM h0 B D hi z s) (B + 85) 11 33 .int (.int w) = some (mkM h0 B D hi z (wrI s 85 33 w)) := wr_85_33 h
theorem rdm_85_34 (h : FX D hi) : oI (mkM h0 B D hi z s) (B + 85) 11 34 = some (s.1 85 34) := rd_85_34 h
theorem wrm_85_34 (h : FX D hi) {w : Int32} : wF (mkM h0 B D hi z s) (B + 85) 11 34 .boolean (.int w) = (wrZ s 85 34 w).map (mkM h0 B D hi z) := by
  unfold wrZ
  by_cases hw : w = 0 ∨ w = 1
  · rw [if_pos hw]; exact wr_85_34 h hw
  · rw [if_neg hw]
    obtain ⟨h1, h2⟩ := mk_cO (h0 := h0) (B := B) (c := s.1) (e := s.2) (z := z) (fx_lt h (k := 85) (by decide)) (fx_85 h)
    have hf : pm_fit .boolean (.int w) = false := by
      show (decide (w = 0) || decide (w = 1)) = false
      simpa using hw
    unfold wF mkM
    rw [h1]
    dsimp only
    rw [if_neg (by rw [hf]; simp)]
    rfl
theorem rdm_85_35 (h : FX D hi) : oR (mkM h0 B D hi z s) (B + 85) 11 35 = some (some (B + 109)) := rd_85_35 h
theorem rdm_85_36 (h : FX D hi) : oR (mkM h0 B D hi z s) (B + 85) 11 36 = some (some (B + 110)) := rd_85_36 h
theorem rdm_85_37 (h : FX D hi) : oR (mkM h0 B D hi z s) (B + 85) 11 37 = some (some (B + 111)) := rd_85_37 h
theorem rdm_85_38 (h : FX D hi) : oR (mkM h0 B D hi z s) (B + 85) 11 38 = some (some (B + 112)) := rd_85_38 h
theorem rdm_85_39 (h : FX D hi) : oR (mkM h0 B D hi z s) (B + 85) 11 39 = some (some (B + 113)) := rd_85_39 h
theorem rdm_85_40 (h : FX D hi) : oR (mkM h0 B D hi z s) (B + 85) 11 40 = some (some (B + 114)) := rd_85_40 h
theorem rdm_85_41 (h : FX D hi) : oR (mkM h0 B D hi z s) (B + 85) 11 41 = some (some (B + 115)) := rd_85_41 h
theorem rdm_85_42 (h : FX D hi) : oR (mkM h0 B D hi z s) (B + 85) 11 42 = some (some (B + 116)) := rd_85_42 h
theorem rdm_85_43 (h : FX D hi) : oR (mkM h0 B D hi z s) (B + 85) 11 43 = some (some (B + 117)) := rd_85_43 h
theorem rdm_85_44 (h : FX D hi) : oR (mkM h0 B D hi z s) (B + 85) 11 44 = some (some (B + 118)) := rd_85_44 h
theorem rdm_85_45 (h : FX D hi) : oR (mkM h0 B D hi z s) (B + 85) 11 45 = some (some (B + 119)) := rd_85_45 h
theorem rdm_85_46 (h : FX D hi) : oR (mkM h0 B D hi z s) (B + 85) 11 46 = some (some (B + 120)) := rd_85_46 h
theorem rdm_85_47 (h : FX D hi) : oR (mkM h0 B D hi z s) (B + 85) 11 47 = some (some (B + 121)) := rd_85_47 h
theorem rdm_85_48 (h : FX D hi) : oR (mkM h0 B D hi z s) (B + 85) 11 48 = some (some (B + 122)) := rd_85_48 h
theorem rdm_85_49 (h : FX D hi) : oR (mkM h0 B D hi z s) (B + 85) 11 49 = some (some (B + 123)) := rd_85_49 h
theorem rdm_85_50 (h : FX D hi) : oR (mkM h0 B D hi z s) (B + 85) 11 50 = some (some (B + 124)) := rd_85_50 h
theorem rdm_85_51 (h : FX D hi) : oI (mkM h0 B D hi z s) (B + 85) 11 51 = some (s.1 85 51) := rd_85_51 h
theorem wrm_85_51 (h : FX D hi) {w : Int32} : wF (mkM h0 B D hi z s) (B + 85) 11 51 .int (.int w) = some (mkM h0 B D hi z (wrI s 85 51 w)) := wr_85_51 h
theorem rdm_85_52 (h : FX D hi) : oI (mkM h0 B D hi z s) (B + 85) 11 52 = some (s.1 85 52) := rd_85_52 h
theorem wrm_85_52 (h : FX D hi) {w : Int32} : wF (mkM h0 B D hi z s) (B + 85) 11 52 .int (.int w) = some (mkM h0 B D hi z (wrI s 85 52 w)) := wr_85_52 h
theorem rdm_85_53 (h : FX D hi) : oR (mkM h0 B D hi z s) (B + 85) 11 53 = some (some (B + 125)) := rd_85_53 h
theorem rdm_85_54 (h : FX D hi) : oR (mkM h0 B D hi z s) (B + 85) 11 54 = some (some (B + 126)) := rd_85_54 h
theorem rdm_85_55 (h : FX D hi) : oR (mkM h0 B D hi z s) (B + 85) 11 55 = some (some (B + 127)) := rd_85_55 h
theorem rdm_85_56 (h : FX D hi) : oR (mkM h0 B D hi z s) (B + 85) 11 56 = some (some (B + 128)) := rd_85_56 h
theorem rdm_85_57 (h : FX D hi) : oI (mkM h0 B D hi z s) (B + 85) 11 57 = some (s.1 85 57) := rd_85_57 h
theorem wrm_85_57 (h : FX D hi) {w : Int32} : wF (mkM h0 B D hi z s) (B + 85) 11 57 .int (.int w) = some (mkM h0 B D hi z (wrI s 85 57 w)) := wr_85_57 h
theorem aim_86 (h : FX D hi) {i : Int32} : aI [2, 3] (mkM h0 B D hi z s) (B + 86) i = rdA s 86 300 i := by
  unfold rdA
  by_cases hi2 : pm_in i 300 = true
  · rw [if_pos hi2]; exact ai_86 h hi2
  · rw [if_neg hi2]; exact aI_out (show ps_h (mkM h0 B D hi z s) (B + 86) = .inl (2, 300, .inl (s.1 86)) from (mk_cell (fx_lt h (by decide)) (fx_86 h)).1) hi2
theorem sim_86 (h : FX D hi) {i x : Int32} : sI [2, 3] (mkM h0 B D hi z s) (B + 86) i x = (stA 2 s 86 300 i x).map (mkM h0 B D hi z) := by
  unfold stA
  by_cases hi2 : pm_in i 300 = true
  · rw [if_pos hi2]; exact si_86 h hi2
  · rw [if_neg hi2]; exact sI_out (show ps_h (mkM h0 B D hi z s) (B + 86) = .inl (2, 300, .inl (s.1 86)) from (mk_cell (fx_lt h (by decide)) (fx_86 h)).1) hi2
theorem aim_87 (h : FX D hi) {i : Int32} : aI [0, 6] (mkM h0 B D hi z s) (B + 87) i = rdA s 87 7 i := by
  unfold rdA
  by_cases hi2 : pm_in i 7 = true
  · rw [if_pos hi2]; exact ai_87 h hi2
  · rw [if_neg hi2]; exact aI_out (show ps_h (mkM h0 B D hi z s) (B + 87) = .inl (0, 7, .inl (s.1 87)) from (mk_cell (fx_lt h (by decide)) (fx_87 h)).1) hi2
theorem sim_87 (h : FX D hi) {i x : Int32} : sI [0] (mkM h0 B D hi z s) (B + 87) i x = (stA 0 s 87 7 i x).map (mkM h0 B D hi z) := by
  unfold stA
  by_cases hi2 : pm_in i 7 = true
  · rw [if_pos hi2]; exact si_87 h hi2
  · rw [if_neg hi2]; exact sI_out (show ps_h (mkM h0 B D hi z s) (B + 87) = .inl (0, 7, .inl (s.1 87)) from (mk_cell (fx_lt h (by decide)) (fx_87 h)).1) hi2
theorem aim_88 (h : FX D hi) {i : Int32} : aI [0, 6] (mkM h0 B D hi z s) (B + 88) i = rdA s 88 7 i := by
  unfold rdA
  by_cases hi2 : pm_in i 7 = true
  · rw [if_pos hi2]; exact ai_88 h hi2
  · rw [if_neg hi2]; exact aI_out (show ps_h (mkM h0 B D hi z s) (B + 88) = .inl (0, 7, .inl (s.1 88)) from (mk_cell (fx_lt h (by decide)) (fx_88 h)).1) hi2
theorem sim_88 (h : FX D hi) {i x : Int32} : sI [0] (mkM h0 B D hi z s) (B + 88) i x = (stA 0 s 88 7 i x).map (mkM h0 B D hi z) := by
  unfold stA
  by_cases hi2 : pm_in i 7 = true
  · rw [if_pos hi2]; exact si_88 h hi2
  · rw [if_neg hi2]; exact sI_out (show ps_h (mkM h0 B D hi z s) (B + 88) = .inl (0, 7, .inl (s.1 88)) from (mk_cell (fx_lt h (by decide)) (fx_88 h)).1) hi2
theorem aim_89 (h : FX D hi) {i : Int32} : aI [0, 6] (mkM h0 B D hi z s) (B + 89) i = rdA s 89 49 i := by
  unfold rdA
  by_cases hi2 : pm_in i 49 = true
  · rw [if_pos hi2]; exact ai_89 h hi2
  · rw [if_neg hi2]; exact aI_out (show ps_h (mkM h0 B D hi z s) (B + 89) = .inl (0, 49, .inl (s.1 89)) from (mk_cell (fx_lt h (by decide)) (fx_89 h)).1) hi2
theorem sim_89 (h : FX D hi) {i x : Int32} : sI [0] (mkM h0 B D hi z s) (B + 89) i x = (stA 0 s 89 49 i x).map (mkM h0 B D hi z) := by
  unfold stA
  by_cases hi2 : pm_in i 49 = true
  · rw [if_pos hi2]; exact si_89 h hi2
  · rw [if_neg hi2]; exact sI_out (show ps_h (mkM h0 B D hi z s) (B + 89) = .inl (0, 49, .inl (s.1 89)) from (mk_cell (fx_lt h (by decide)) (fx_89 h)).1) hi2
theorem aim_90 (h : FX D hi) {i : Int32} : aI [0, 6] (mkM h0 B D hi z s) (B + 90) i = rdA s 90 49 i := by
  unfold rdA
  by_cases hi2 : pm_in i 49 = true
  · rw [if_pos hi2]; exact ai_90 h hi2
  · rw [if_neg hi2]; exact aI_out (show ps_h (mkM h0 B D hi z s) (B + 90) = .inl (0, 49, .inl (s.1 90)) from (mk_cell (fx_lt h (by decide)) (fx_90 h)).1) hi2
theorem sim_90 (h : FX D hi) {i x : Int32} : sI [0] (mkM h0 B D hi z s) (B + 90) i x = (stA 0 s 90 49 i x).map (mkM h0 B D hi z) := by
  unfold stA
  by_cases hi2 : pm_in i 49 = true
  · rw [if_pos hi2]; exact si_90 h hi2
  · rw [if_neg hi2]; exact sI_out (show ps_h (mkM h0 B D hi z s) (B + 90) = .inl (0, 49, .inl (s.1 90)) from (mk_cell (fx_lt h (by decide)) (fx_90 h)).1) hi2
theorem aim_91 (h : FX D hi) {i : Int32} : aI [0, 6] (mkM h0 B D hi z s) (B + 91) i = rdA s 91 49 i := by
  unfold rdA
  by_cases hi2 : pm_in i 49 = true
  · rw [if_pos hi2]; exact ai_91 h hi2
  · rw [if_neg hi2]; exact aI_out (show ps_h (mkM h0 B D hi z s) (B + 91) = .inl (0, 49, .inl (s.1 91)) from (mk_cell (fx_lt h (by decide)) (fx_91 h)).1) hi2
theorem sim_91 (h : FX D hi) {i x : Int32} : sI [0] (mkM h0 B D hi z s) (B + 91) i x = (stA 0 s 91 49 i x).map (mkM h0 B D hi z) := by
  unfold stA
  by_cases hi2 : pm_in i 49 = true
  · rw [if_pos hi2]; exact si_91 h hi2
  · rw [if_neg hi2]; exact sI_out (show ps_h (mkM h0 B D hi z s) (B + 91) = .inl (0, 49, .inl (s.1 91)) from (mk_cell (fx_lt h (by decide)) (fx_91 h)).1) hi2
theorem aim_92 (h : FX D hi) {i : Int32} : aI [0, 6] (mkM h0 B D hi z s) (B + 92) i = rdA s 92 49 i := by
  unfold rdA
  by_cases hi2 : pm_in i 49 = true
  · rw [if_pos hi2]; exact ai_92 h hi2
  · rw [if_neg hi2]; exact aI_out (show ps_h (mkM h0 B D hi z s) (B + 92) = .inl (0, 49, .inl (s.1 92)) from (mk_cell (fx_lt h (by decide)) (fx_92 h)).1) hi2
theorem sim_92 (h : FX D hi) {i x : Int32} : sI [0] (mkM h0 B D hi z s) (B + 92) i x = (stA 0 s 92 49 i x).map (mkM h0 B D hi z) := by
  unfold stA
  by_cases hi2 : pm_in i 49 = true
  · rw [if_pos hi2]; exact si_92 h hi2
  · rw [if_neg hi2]; exact sI_out (show ps_h (mkM h0 B D hi z s) (B + 92) = .inl (0, 49, .inl (s.1 92)) from (mk_cell (fx_lt h (by decide)) (fx_92 h)).1) hi2
theorem aim_93 (h : FX D hi) {i : Int32} : aI [0, 6] (mkM h0 B D hi z s) (B + 93) i = rdA s 93 7 i := by
  unfold rdA
  by_cases hi2 : pm_in i 7 = true
  · rw [if_pos hi2]; exact ai_93 h hi2
  · rw [if_neg hi2]; exact aI_out (show ps_h (mkM h0 B D hi z s) (B + 93) = .inl (0, 7, .inl (s.1 93)) from (mk_cell (fx_lt h (by decide)) (fx_93 h)).1) hi2
theorem sim_93 (h : FX D hi) {i x : Int32} : sI [0] (mkM h0 B D hi z s) (B + 93) i x = (stA 0 s 93 7 i x).map (mkM h0 B D hi z) := by
  unfold stA
  by_cases hi2 : pm_in i 7 = true
  · rw [if_pos hi2]; exact si_93 h hi2
  · rw [if_neg hi2]; exact sI_out (show ps_h (mkM h0 B D hi z s) (B + 93) = .inl (0, 7, .inl (s.1 93)) from (mk_cell (fx_lt h (by decide)) (fx_93 h)).1) hi2
theorem aim_94 (h : FX D hi) {i : Int32} : aI [0, 6] (mkM h0 B D hi z s) (B + 94) i = rdA s 94 420 i := by
  unfold rdA
  by_cases hi2 : pm_in i 420 = true
  · rw [if_pos hi2]; exact ai_94 h hi2
  · rw [if_neg hi2]; exact aI_out (show ps_h (mkM h0 B D hi z s) (B + 94) = .inl (0, 420, .inl (s.1 94)) from (mk_cell (fx_lt h (by decide)) (fx_94 h)).1) hi2
theorem sim_94 (h : FX D hi) {i x : Int32} : sI [0] (mkM h0 B D hi z s) (B + 94) i x = (stA 0 s 94 420 i x).map (mkM h0 B D hi z) := by
  unfold stA
  by_cases hi2 : pm_in i 420 = true
  · rw [if_pos hi2]; exact si_94 h hi2
  · rw [if_neg hi2]; exact sI_out (show ps_h (mkM h0 B D hi z s) (B + 94) = .inl (0, 420, .inl (s.1 94)) from (mk_cell (fx_lt h (by decide)) (fx_94 h)).1) hi2
theorem aim_95 (h : FX D hi) {i : Int32} : aI [0, 6] (mkM h0 B D hi z s) (B + 95) i = rdA s 95 420 i := by
  unfold rdA
  by_cases hi2 : pm_in i 420 = true
  · rw [if_pos hi2]; exact ai_95 h hi2
  · rw [if_neg hi2]; exact aI_out (show ps_h (mkM h0 B D hi z s) (B + 95) = .inl (0, 420, .inl (s.1 95)) from (mk_cell (fx_lt h (by decide)) (fx_95 h)).1) hi2
theorem sim_95 (h : FX D hi) {i x : Int32} : sI [0] (mkM h0 B D hi z s) (B + 95) i x = (stA 0 s 95 420 i x).map (mkM h0 B D hi z) := by
  unfold stA
  by_cases hi2 : pm_in i 420 = true
  · rw [if_pos hi2]; exact si_95 h hi2
  · rw [if_neg hi2]; exact sI_out (show ps_h (mkM h0 B D hi z s) (B + 95) = .inl (0, 420, .inl (s.1 95)) from (mk_cell (fx_lt h (by decide)) (fx_95 h)).1) hi2
theorem aim_96 (h : FX D hi) {i : Int32} : aI [0, 6] (mkM h0 B D hi z s) (B + 96) i = rdA s 96 420 i := by
  unfold rdA
  by_cases hi2 : pm_in i 420 = true
  · rw [if_pos hi2]; exact ai_96 h hi2
  · rw [if_neg hi2]; exact aI_out (show ps_h (mkM h0 B D hi z s) (B + 96) = .inl (0, 420, .inl (s.1 96)) from (mk_cell (fx_lt h (by decide)) (fx_96 h)).1) hi2
theorem sim_96 (h : FX D hi) {i x : Int32} : sI [0] (mkM h0 B D hi z s) (B + 96) i x = (stA 0 s 96 420 i x).map (mkM h0 B D hi z) := by
  unfold stA
  by_cases hi2 : pm_in i 420 = true
  · rw [if_pos hi2]; exact si_96 h hi2
  · rw [if_neg hi2]; exact sI_out (show ps_h (mkM h0 B D hi z s) (B + 96) = .inl (0, 420, .inl (s.1 96)) from (mk_cell (fx_lt h (by decide)) (fx_96 h)).1) hi2
theorem aim_97 (h : FX D hi) {i : Int32} : aI [0, 6] (mkM h0 B D hi z s) (B + 97) i = rdA s 97 420 i := by
  unfold rdA
  by_cases hi2 : pm_in i 420 = true
  · rw [if_pos hi2]; exact ai_97 h hi2
  · rw [if_neg hi2]; exact aI_out (show ps_h (mkM h0 B D hi z s) (B + 97) = .inl (0, 420, .inl (s.1 97)) from (mk_cell (fx_lt h (by decide)) (fx_97 h)).1) hi2
theorem sim_97 (h : FX D hi) {i x : Int32} : sI [0] (mkM h0 B D hi z s) (B + 97) i x = (stA 0 s 97 420 i x).map (mkM h0 B D hi z) := by
  unfold stA
  by_cases hi2 : pm_in i 420 = true
  · rw [if_pos hi2]; exact si_97 h hi2
  · rw [if_neg hi2]; exact sI_out (show ps_h (mkM h0 B D hi z s) (B + 97) = .inl (0, 420, .inl (s.1 97)) from (mk_cell (fx_lt h (by decide)) (fx_97 h)).1) hi2
theorem aim_98 (h : FX D hi) {i : Int32} : aI [0, 6] (mkM h0 B D hi z s) (B + 98) i = rdA s 98 420 i := by
  unfold rdA
  by_cases hi2 : pm_in i 420 = true
  · rw [if_pos hi2]; exact ai_98 h hi2
  · rw [if_neg hi2]; exact aI_out (show ps_h (mkM h0 B D hi z s) (B + 98) = .inl (0, 420, .inl (s.1 98)) from (mk_cell (fx_lt h (by decide)) (fx_98 h)).1) hi2
theorem sim_98 (h : FX D hi) {i x : Int32} : sI [0] (mkM h0 B D hi z s) (B + 98) i x = (stA 0 s 98 420 i x).map (mkM h0 B D hi z) := by
  unfold stA
  by_cases hi2 : pm_in i 420 = true
  · rw [if_pos hi2]; exact si_98 h hi2
  · rw [if_neg hi2]; exact sI_out (show ps_h (mkM h0 B D hi z s) (B + 98) = .inl (0, 420, .inl (s.1 98)) from (mk_cell (fx_lt h (by decide)) (fx_98 h)).1) hi2
theorem aim_99 (h : FX D hi) {i : Int32} : aI [0, 6] (mkM h0 B D hi z s) (B + 99) i = rdA s 99 7 i := by
  unfold rdA
  by_cases hi2 : pm_in i 7 = true
  · rw [if_pos hi2]; exact ai_99 h hi2
  · rw [if_neg hi2]; exact aI_out (show ps_h (mkM h0 B D hi z s) (B + 99) = .inl (0, 7, .inl (s.1 99)) from (mk_cell (fx_lt h (by decide)) (fx_99 h)).1) hi2
theorem sim_99 (h : FX D hi) {i x : Int32} : sI [0] (mkM h0 B D hi z s) (B + 99) i x = (stA 0 s 99 7 i x).map (mkM h0 B D hi z) := by
  unfold stA
  by_cases hi2 : pm_in i 7 = true
  · rw [if_pos hi2]; exact si_99 h hi2
  · rw [if_neg hi2]; exact sI_out (show ps_h (mkM h0 B D hi z s) (B + 99) = .inl (0, 7, .inl (s.1 99)) from (mk_cell (fx_lt h (by decide)) (fx_99 h)).1) hi2
theorem aim_100 (h : FX D hi) {i : Int32} : aI [0, 6] (mkM h0 B D hi z s) (B + 100) i = rdA s 100 7 i := by
  unfold rdA
  by_cases hi2 : pm_in i 7 = true
  · rw [if_pos hi2]; exact ai_100 h hi2
  · rw [if_neg hi2]; exact aI_out (show ps_h (mkM h0 B D hi z s) (B + 100) = .inl (0, 7, .inl (s.1 100)) from (mk_cell (fx_lt h (by decide)) (fx_100 h)).1) hi2
theorem sim_100 (h : FX D hi) {i x : Int32} : sI [0] (mkM h0 B D hi z s) (B + 100) i x = (stA 0 s 100 7 i x).map (mkM h0 B D hi z) := by
  unfold stA
  by_cases hi2 : pm_in i 7 = true
  · rw [if_pos hi2]; exact si_100 h hi2
  · rw [if_neg hi2]; exact sI_out (show ps_h (mkM h0 B D hi z s) (B + 100) = .inl (0, 7, .inl (s.1 100)) from (mk_cell (fx_lt h (by decide)) (fx_100 h)).1) hi2
theorem aim_101 (h : FX D hi) {i : Int32} : aI [0, 6] (mkM h0 B D hi z s) (B + 101) i = rdA s 101 60 i := by
  unfold rdA
  by_cases hi2 : pm_in i 60 = true
  · rw [if_pos hi2]; exact ai_101 h hi2
  · rw [if_neg hi2]; exact aI_out (show ps_h (mkM h0 B D hi z s) (B + 101) = .inl (0, 60, .inl (s.1 101)) from (mk_cell (fx_lt h (by decide)) (fx_101 h)).1) hi2
theorem sim_101 (h : FX D hi) {i x : Int32} : sI [0] (mkM h0 B D hi z s) (B + 101) i x = (stA 0 s 101 60 i x).map (mkM h0 B D hi z) := by
  unfold stA
  by_cases hi2 : pm_in i 60 = true
  · rw [if_pos hi2]; exact si_101 h hi2
  · rw [if_neg hi2]; exact sI_out (show ps_h (mkM h0 B D hi z s) (B + 101) = .inl (0, 60, .inl (s.1 101)) from (mk_cell (fx_lt h (by decide)) (fx_101 h)).1) hi2
theorem aim_102 (h : FX D hi) {i : Int32} : aI [0, 6] (mkM h0 B D hi z s) (B + 102) i = rdA s 102 60 i := by
  unfold rdA
  by_cases hi2 : pm_in i 60 = true
  · rw [if_pos hi2]; exact ai_102 h hi2
  · rw [if_neg hi2]; exact aI_out (show ps_h (mkM h0 B D hi z s) (B + 102) = .inl (0, 60, .inl (s.1 102)) from (mk_cell (fx_lt h (by decide)) (fx_102 h)).1) hi2
theorem sim_102 (h : FX D hi) {i x : Int32} : sI [0] (mkM h0 B D hi z s) (B + 102) i x = (stA 0 s 102 60 i x).map (mkM h0 B D hi z) := by
  unfold stA
  by_cases hi2 : pm_in i 60 = true
  · rw [if_pos hi2]; exact si_102 h hi2
  · rw [if_neg hi2]; exact sI_out (show ps_h (mkM h0 B D hi z s) (B + 102) = .inl (0, 60, .inl (s.1 102)) from (mk_cell (fx_lt h (by decide)) (fx_102 h)).1) hi2
theorem aim_103 (h : FX D hi) {i : Int32} : aI [0, 6] (mkM h0 B D hi z s) (B + 103) i = rdA s 103 60 i := by
  unfold rdA
  by_cases hi2 : pm_in i 60 = true
  · rw [if_pos hi2]; exact ai_103 h hi2
  · rw [if_neg hi2]; exact aI_out (show ps_h (mkM h0 B D hi z s) (B + 103) = .inl (0, 60, .inl (s.1 103)) from (mk_cell (fx_lt h (by decide)) (fx_103 h)).1) hi2
theorem sim_103 (h : FX D hi) {i x : Int32} : sI [0] (mkM h0 B D hi z s) (B + 103) i x = (stA 0 s 103 60 i x).map (mkM h0 B D hi z) := by
  unfold stA
  by_cases hi2 : pm_in i 60 = true
  · rw [if_pos hi2]; exact si_103 h hi2
  · rw [if_neg hi2]; exact sI_out (show ps_h (mkM h0 B D hi z s) (B + 103) = .inl (0, 60, .inl (s.1 103)) from (mk_cell (fx_lt h (by decide)) (fx_103 h)).1) hi2
theorem aim_104 (h : FX D hi) {i : Int32} : aI [0, 6] (mkM h0 B D hi z s) (B + 104) i = rdA s 104 60 i := by
  unfold rdA
  by_cases hi2 : pm_in i 60 = true
  · rw [if_pos hi2]; exact ai_104 h hi2
  · rw [if_neg hi2]; exact aI_out (show ps_h (mkM h0 B D hi z s) (B + 104) = .inl (0, 60, .inl (s.1 104)) from (mk_cell (fx_lt h (by decide)) (fx_104 h)).1) hi2
theorem sim_104 (h : FX D hi) {i x : Int32} : sI [0] (mkM h0 B D hi z s) (B + 104) i x = (stA 0 s 104 60 i x).map (mkM h0 B D hi z) := by
  unfold stA
  by_cases hi2 : pm_in i 60 = true
  · rw [if_pos hi2]; exact si_104 h hi2
  · rw [if_neg hi2]; exact sI_out (show ps_h (mkM h0 B D hi z s) (B + 104) = .inl (0, 60, .inl (s.1 104)) from (mk_cell (fx_lt h (by decide)) (fx_104 h)).1) hi2
theorem aim_105 (h : FX D hi) {i : Int32} : aI [0, 6] (mkM h0 B D hi z s) (B + 105) i = rdA s 105 60 i := by
  unfold rdA
  by_cases hi2 : pm_in i 60 = true
  · rw [if_pos hi2]; exact ai_105 h hi2
  · rw [if_neg hi2]; exact aI_out (show ps_h (mkM h0 B D hi z s) (B + 105) = .inl (0, 60, .inl (s.1 105)) from (mk_cell (fx_lt h (by decide)) (fx_105 h)).1) hi2
theorem sim_105 (h : FX D hi) {i x : Int32} : sI [0] (mkM h0 B D hi z s) (B + 105) i x = (stA 0 s 105 60 i x).map (mkM h0 B D hi z) := by
  unfold stA
  by_cases hi2 : pm_in i 60 = true
  · rw [if_pos hi2]; exact si_105 h hi2
  · rw [if_neg hi2]; exact sI_out (show ps_h (mkM h0 B D hi z s) (B + 105) = .inl (0, 60, .inl (s.1 105)) from (mk_cell (fx_lt h (by decide)) (fx_105 h)).1) hi2
theorem aim_106 (h : FX D hi) {i : Int32} : aI [0, 6] (mkM h0 B D hi z s) (B + 106) i = rdA s 106 42 i := by
  unfold rdA
  by_cases hi2 : pm_in i 42 = true
  · rw [if_pos hi2]; exact ai_106 h hi2
  · rw [if_neg hi2]; exact aI_out (show ps_h (mkM h0 B D hi z s) (B + 106) = .inl (0, 42, .inl (s.1 106)) from (mk_cell (fx_lt h (by decide)) (fx_106 h)).1) hi2
theorem sim_106 (h : FX D hi) {i x : Int32} : sI [0] (mkM h0 B D hi z s) (B + 106) i x = (stA 0 s 106 42 i x).map (mkM h0 B D hi z) := by
  unfold stA
  by_cases hi2 : pm_in i 42 = true
  · rw [if_pos hi2]; exact si_106 h hi2
  · rw [if_neg hi2]; exact sI_out (show ps_h (mkM h0 B D hi z s) (B + 106) = .inl (0, 42, .inl (s.1 106)) from (mk_cell (fx_lt h (by decide)) (fx_106 h)).1) hi2
theorem aim_107 (h : FX D hi) {i : Int32} : aI [0, 6] (mkM h0 B D hi z s) (B + 107) i = rdA s 107 42 i := by
  unfold rdA
  by_cases hi2 : pm_in i 42 = true
  · rw [if_pos hi2]; exact ai_107 h hi2
  · rw [if_neg hi2]; exact aI_out (show ps_h (mkM h0 B D hi z s) (B + 107) = .inl (0, 42, .inl (s.1 107)) from (mk_cell (fx_lt h (by decide)) (fx_107 h)).1) hi2
theorem sim_107 (h : FX D hi) {i x : Int32} : sI [0] (mkM h0 B D hi z s) (B + 107) i x = (stA 0 s 107 42 i x).map (mkM h0 B D hi z) := by
  unfold stA
  by_cases hi2 : pm_in i 42 = true
  · rw [if_pos hi2]; exact si_107 h hi2
  · rw [if_neg hi2]; exact sI_out (show ps_h (mkM h0 B D hi z s) (B + 107) = .inl (0, 42, .inl (s.1 107)) from (mk_cell (fx_lt h (by decide)) (fx_107 h)).1) hi2
theorem aim_108 (h : FX D hi) {i : Int32} : aI [0, 6] (mkM h0 B D hi z s) (B + 108) i = rdA s 108 42 i := by
  unfold rdA
  by_cases hi2 : pm_in i 42 = true
  · rw [if_pos hi2]; exact ai_108 h hi2
  · rw [if_neg hi2]; exact aI_out (show ps_h (mkM h0 B D hi z s) (B + 108) = .inl (0, 42, .inl (s.1 108)) from (mk_cell (fx_lt h (by decide)) (fx_108 h)).1) hi2
theorem sim_108 (h : FX D hi) {i x : Int32} : sI [0] (mkM h0 B D hi z s) (B + 108) i x = (stA 0 s 108 42 i x).map (mkM h0 B D hi z) := by
  unfold stA
  by_cases hi2 : pm_in i 42 = true
  · rw [if_pos hi2]; exact si_108 h hi2
  · rw [if_neg hi2]; exact sI_out (show ps_h (mkM h0 B D hi z s) (B + 108) = .inl (0, 42, .inl (s.1 108)) from (mk_cell (fx_lt h (by decide)) (fx_108 h)).1) hi2
theorem aim_109 (h : FX D hi) {i : Int32} : aI [2, 3] (mkM h0 B D hi z s) (B + 109) i = rdA s 109 462 i := by
  unfold rdA
  by_cases hi2 : pm_in i 462 = true
  · rw [if_pos hi2]; exact ai_109 h hi2
  · rw [if_neg hi2]; exact aI_out (show ps_h (mkM h0 B D hi z s) (B + 109) = .inl (3, 462, .inl (s.1 109)) from (mk_cell (fx_lt h (by decide)) (fx_109 h)).1) hi2
theorem sim_109 (h : FX D hi) {i x : Int32} : sI [2, 3] (mkM h0 B D hi z s) (B + 109) i x = (stA 3 s 109 462 i x).map (mkM h0 B D hi z) := by
  unfold stA
  by_cases hi2 : pm_in i 462 = true
  · rw [if_pos hi2]; exact si_109 h hi2
  · rw [if_neg hi2]; exact sI_out (show ps_h (mkM h0 B D hi z s) (B + 109) = .inl (3, 462, .inl (s.1 109)) from (mk_cell (fx_lt h (by decide)) (fx_109 h)).1) hi2
theorem ajm_110 (h : FX D hi) {i : Int32} : aJ (mkM h0 B D hi z s) (B + 110) i = rdJ s 110 10 i := by
  unfold rdJ
  by_cases hi2 : pm_in i 10 = true
  · rw [if_pos hi2]; exact aj_110 h hi2
  · rw [if_neg hi2]; exact aJ_out (show ps_h (mkM h0 B D hi z s) (B + 110) = .inl (1, 10, .inr (.inl (s.2 110))) from (mk_cell (fx_lt h (by decide)) (fx_110 h)).1) hi2
theorem sjm_110 (h : FX D hi) {i : Int32} {x : Int64} : sJ (mkM h0 B D hi z s) (B + 110) i x = (stJ s 110 10 i x).map (mkM h0 B D hi z) := by
  unfold stJ
  by_cases hi2 : pm_in i 10 = true
  · rw [if_pos hi2]; exact sj_110 h hi2
  · rw [if_neg hi2]; exact sJ_out (show ps_h (mkM h0 B D hi z s) (B + 110) = .inl (1, 10, .inr (.inl (s.2 110))) from (mk_cell (fx_lt h (by decide)) (fx_110 h)).1) hi2
theorem aim_111 (h : FX D hi) {i : Int32} : aI [0, 6] (mkM h0 B D hi z s) (B + 111) i = rdA s 111 7 i := by
  unfold rdA
  by_cases hi2 : pm_in i 7 = true
  · rw [if_pos hi2]; exact ai_111 h hi2
  · rw [if_neg hi2]; exact aI_out (show ps_h (mkM h0 B D hi z s) (B + 111) = .inl (0, 7, .inl (s.1 111)) from (mk_cell (fx_lt h (by decide)) (fx_111 h)).1) hi2
theorem sim_111 (h : FX D hi) {i x : Int32} : sI [0] (mkM h0 B D hi z s) (B + 111) i x = (stA 0 s 111 7 i x).map (mkM h0 B D hi z) := by
  unfold stA
  by_cases hi2 : pm_in i 7 = true
  · rw [if_pos hi2]; exact si_111 h hi2
  · rw [if_neg hi2]; exact sI_out (show ps_h (mkM h0 B D hi z s) (B + 111) = .inl (0, 7, .inl (s.1 111)) from (mk_cell (fx_lt h (by decide)) (fx_111 h)).1) hi2
theorem aim_112 (h : FX D hi) {i : Int32} : aI [0, 6] (mkM h0 B D hi z s) (B + 112) i = rdA s 112 72 i := by
  unfold rdA
  by_cases hi2 : pm_in i 72 = true
  · rw [if_pos hi2]; exact ai_112 h hi2
  · rw [if_neg hi2]; exact aI_out (show ps_h (mkM h0 B D hi z s) (B + 112) = .inl (0, 72, .inl (s.1 112)) from (mk_cell (fx_lt h (by decide)) (fx_112 h)).1) hi2
theorem sim_112 (h : FX D hi) {i x : Int32} : sI [0] (mkM h0 B D hi z s) (B + 112) i x = (stA 0 s 112 72 i x).map (mkM h0 B D hi z) := by
  unfold stA
  by_cases hi2 : pm_in i 72 = true
  · rw [if_pos hi2]; exact si_112 h hi2
  · rw [if_neg hi2]; exact sI_out (show ps_h (mkM h0 B D hi z s) (B + 112) = .inl (0, 72, .inl (s.1 112)) from (mk_cell (fx_lt h (by decide)) (fx_112 h)).1) hi2
theorem aim_113 (h : FX D hi) {i : Int32} : aI [0, 6] (mkM h0 B D hi z s) (B + 113) i = rdA s 113 72 i := by
  unfold rdA
  by_cases hi2 : pm_in i 72 = true
  · rw [if_pos hi2]; exact ai_113 h hi2
  · rw [if_neg hi2]; exact aI_out (show ps_h (mkM h0 B D hi z s) (B + 113) = .inl (0, 72, .inl (s.1 113)) from (mk_cell (fx_lt h (by decide)) (fx_113 h)).1) hi2
theorem sim_113 (h : FX D hi) {i x : Int32} : sI [0] (mkM h0 B D hi z s) (B + 113) i x = (stA 0 s 113 72 i x).map (mkM h0 B D hi z) := by
  unfold stA
  by_cases hi2 : pm_in i 72 = true
  · rw [if_pos hi2]; exact si_113 h hi2
  · rw [if_neg hi2]; exact sI_out (show ps_h (mkM h0 B D hi z s) (B + 113) = .inl (0, 72, .inl (s.1 113)) from (mk_cell (fx_lt h (by decide)) (fx_113 h)).1) hi2
theorem aim_114 (h : FX D hi) {i : Int32} : aI [0, 6] (mkM h0 B D hi z s) (B + 114) i = rdA s 114 72 i := by
  unfold rdA
  by_cases hi2 : pm_in i 72 = true
  · rw [if_pos hi2]; exact ai_114 h hi2
  · rw [if_neg hi2]; exact aI_out (show ps_h (mkM h0 B D hi z s) (B + 114) = .inl (0, 72, .inl (s.1 114)) from (mk_cell (fx_lt h (by decide)) (fx_114 h)).1) hi2
theorem sim_114 (h : FX D hi) {i x : Int32} : sI [0] (mkM h0 B D hi z s) (B + 114) i x = (stA 0 s 114 72 i x).map (mkM h0 B D hi z) := by
  unfold stA
  by_cases hi2 : pm_in i 72 = true
  · rw [if_pos hi2]; exact si_114 h hi2
  · rw [if_neg hi2]; exact sI_out (show ps_h (mkM h0 B D hi z s) (B + 114) = .inl (0, 72, .inl (s.1 114)) from (mk_cell (fx_lt h (by decide)) (fx_114 h)).1) hi2
theorem aim_115 (h : FX D hi) {i : Int32} : aI [0, 6] (mkM h0 B D hi z s) (B + 115) i = rdA s 115 72 i := by
  unfold rdA
  by_cases hi2 : pm_in i 72 = true
  · rw [if_pos hi2]; exact ai_115 h hi2
  · rw [if_neg hi2]; exact aI_out (show ps_h (mkM h0 B D hi z s) (B + 115) = .inl (0, 72, .inl (s.1 115)) from (mk_cell (fx_lt h (by decide)) (fx_115 h)).1) hi2
theorem sim_115 (h : FX D hi) {i x : Int32} : sI [0] (mkM h0 B D hi z s) (B + 115) i x = (stA 0 s 115 72 i x).map (mkM h0 B D hi z) := by
  unfold stA
  by_cases hi2 : pm_in i 72 = true
  · rw [if_pos hi2]; exact si_115 h hi2
  · rw [if_neg hi2]; exact sI_out (show ps_h (mkM h0 B D hi z s) (B + 115) = .inl (0, 72, .inl (s.1 115)) from (mk_cell (fx_lt h (by decide)) (fx_115 h)).1) hi2
theorem aim_116 (h : FX D hi) {i : Int32} : aI [0, 6] (mkM h0 B D hi z s) (B + 116) i = rdA s 116 72 i := by
  unfold rdA
  by_cases hi2 : pm_in i 72 = true
  · rw [if_pos hi2]; exact ai_116 h hi2
  · rw [if_neg hi2]; exact aI_out (show ps_h (mkM h0 B D hi z s) (B + 116) = .inl (0, 72, .inl (s.1 116)) from (mk_cell (fx_lt h (by decide)) (fx_116 h)).1) hi2
theorem sim_116 (h : FX D hi) {i x : Int32} : sI [0] (mkM h0 B D hi z s) (B + 116) i x = (stA 0 s 116 72 i x).map (mkM h0 B D hi z) := by
  unfold stA
  by_cases hi2 : pm_in i 72 = true
  · rw [if_pos hi2]; exact si_116 h hi2
  · rw [if_neg hi2]; exact sI_out (show ps_h (mkM h0 B D hi z s) (B + 116) = .inl (0, 72, .inl (s.1 116)) from (mk_cell (fx_lt h (by decide)) (fx_116 h)).1) hi2
theorem aim_117 (h : FX D hi) {i : Int32} : aI [0, 6] (mkM h0 B D hi z s) (B + 117) i = rdA s 117 72 i := by
  unfold rdA
  by_cases hi2 : pm_in i 72 = true
  · rw [if_pos hi2]; exact ai_117 h hi2
  · rw [if_neg hi2]; exact aI_out (show ps_h (mkM h0 B D hi z s) (B + 117) = .inl (0, 72, .inl (s.1 117)) from (mk_cell (fx_lt h (by decide)) (fx_117 h)).1) hi2
theorem sim_117 (h : FX D hi) {i x : Int32} : sI [0] (mkM h0 B D hi z s) (B + 117) i x = (stA 0 s 117 72 i x).map (mkM h0 B D hi z) := by
  unfold stA
  by_cases hi2 : pm_in i 72 = true
  · rw [if_pos hi2]; exact si_117 h hi2
  · rw [if_neg hi2]; exact sI_out (show ps_h (mkM h0 B D hi z s) (B + 117) = .inl (0, 72, .inl (s.1 117)) from (mk_cell (fx_lt h (by decide)) (fx_117 h)).1) hi2
theorem aim_118 (h : FX D hi) {i : Int32} : aI [0, 6] (mkM h0 B D hi z s) (B + 118) i = rdA s 118 7 i := by
  unfold rdA
  by_cases hi2 : pm_in i 7 = true
  · rw [if_pos hi2]; exact ai_118 h hi2
  · rw [if_neg hi2]; exact aI_out (show ps_h (mkM h0 B D hi z s) (B + 118) = .inl (0, 7, .inl (s.1 118)) from (mk_cell (fx_lt h (by decide)) (fx_118 h)).1) hi2
theorem sim_118 (h : FX D hi) {i x : Int32} : sI [0] (mkM h0 B D hi z s) (B + 118) i x = (stA 0 s 118 7 i x).map (mkM h0 B D hi z) := by
  unfold stA
  by_cases hi2 : pm_in i 7 = true
  · rw [if_pos hi2]; exact si_118 h hi2
  · rw [if_neg hi2]; exact sI_out (show ps_h (mkM h0 B D hi z s) (B + 118) = .inl (0, 7, .inl (s.1 118)) from (mk_cell (fx_lt h (by decide)) (fx_118 h)).1) hi2
theorem aim_119 (h : FX D hi) {i : Int32} : aI [0, 6] (mkM h0 B D hi z s) (B + 119) i = rdA s 119 144 i := by
  unfold rdA
  by_cases hi2 : pm_in i 144 = true
  · rw [if_pos hi2]; exact ai_119 h hi2
  · rw [if_neg hi2]; exact aI_out (show ps_h (mkM h0 B D hi z s) (B + 119) = .inl (0, 144, .inl (s.1 119)) from (mk_cell (fx_lt h (by decide)) (fx_119 h)).1) hi2
theorem sim_119 (h : FX D hi) {i x : Int32} : sI [0] (mkM h0 B D hi z s) (B + 119) i x = (stA 0 s 119 144 i x).map (mkM h0 B D hi z) := by
  unfold stA
  by_cases hi2 : pm_in i 144 = true
  · rw [if_pos hi2]; exact si_119 h hi2
  · rw [if_neg hi2]; exact sI_out (show ps_h (mkM h0 B D hi z s) (B + 119) = .inl (0, 144, .inl (s.1 119)) from (mk_cell (fx_lt h (by decide)) (fx_119 h)).1) hi2
theorem aim_120 (h : FX D hi) {i : Int32} : aI [0, 6] (mkM h0 B D hi z s) (B + 120) i = rdA s 120 144 i := by
  unfold rdA
  by_cases hi2 : pm_in i 144 = true
  · rw [if_pos hi2]; exact ai_120 h hi2
  · rw [if_neg hi2]; exact aI_out (show ps_h (mkM h0 B D hi z s) (B + 120) = .inl (0, 144, .inl (s.1 120)) from (mk_cell (fx_lt h (by decide)) (fx_120 h)).1) hi2
theorem sim_120 (h : FX D hi) {i x : Int32} : sI [0] (mkM h0 B D hi z s) (B + 120) i x = (stA 0 s 120 144 i x).map (mkM h0 B D hi z) := by
  unfold stA
  by_cases hi2 : pm_in i 144 = true
  · rw [if_pos hi2]; exact si_120 h hi2
  · rw [if_neg hi2]; exact sI_out (show ps_h (mkM h0 B D hi z s) (B + 120) = .inl (0, 144, .inl (s.1 120)) from (mk_cell (fx_lt h (by decide)) (fx_120 h)).1) hi2
theorem aim_121 (h : FX D hi) {i : Int32} : aI [2, 3] (mkM h0 B D hi z s) (B + 121) i = rdA s 121 144 i := by
  unfold rdA
  by_cases hi2 : pm_in i 144 = true
  · rw [if_pos hi2]; exact ai_121 h hi2
  · rw [if_neg hi2]; exact aI_out (show ps_h (mkM h0 B D hi z s) (B + 121) = .inl (3, 144, .inl (s.1 121)) from (mk_cell (fx_lt h (by decide)) (fx_121 h)).1) hi2
theorem sim_121 (h : FX D hi) {i x : Int32} : sI [2, 3] (mkM h0 B D hi z s) (B + 121) i x = (stA 3 s 121 144 i x).map (mkM h0 B D hi z) := by
  unfold stA
  by_cases hi2 : pm_in i 144 = true
  · rw [if_pos hi2]; exact si_121 h hi2
  · rw [if_neg hi2]; exact sI_out (show ps_h (mkM h0 B D hi z s) (B + 121) = .inl (3, 144, .inl (s.1 121)) from (mk_cell (fx_lt h (by decide)) (fx_121 h)).1) hi2
theorem aim_122 (h : FX D hi) {i : Int32} : aI [2, 3] (mkM h0 B D hi z s) (B + 122) i = rdA s 122 1024 i := by
  unfold rdA
  by_cases hi2 : pm_in i 1024 = true
  · rw [if_pos hi2]; exact ai_122 h hi2
  · rw [if_neg hi2]; exact aI_out (show ps_h (mkM h0 B D hi z s) (B + 122) = .inl (3, 1024, .inl (s.1 122)) from (mk_cell (fx_lt h (by decide)) (fx_122 h)).1) hi2
theorem sim_122 (h : FX D hi) {i x : Int32} : sI [2, 3] (mkM h0 B D hi z s) (B + 122) i x = (stA 3 s 122 1024 i x).map (mkM h0 B D hi z) := by
  unfold stA
  by_cases hi2 : pm_in i 1024 = true
  · rw [if_pos hi2]; exact si_122 h hi2
  · rw [if_neg hi2]; exact sI_out (show ps_h (mkM h0 B D hi z s) (B + 122) = .inl (3, 1024, .inl (s.1 122)) from (mk_cell (fx_lt h (by decide)) (fx_122 h)).1) hi2
theorem aim_123 (h : FX D hi) {i : Int32} : aI [0, 6] (mkM h0 B D hi z s) (B + 123) i = rdA s 123 1024 i := by
  unfold rdA
  by_cases hi2 : pm_in i 1024 = true
  · rw [if_pos hi2]; exact ai_123 h hi2
  · rw [if_neg hi2]; exact aI_out (show ps_h (mkM h0 B D hi z s) (B + 123) = .inl (0, 1024, .inl (s.1 123)) from (mk_cell (fx_lt h (by decide)) (fx_123 h)).1) hi2
theorem sim_123 (h : FX D hi) {i x : Int32} : sI [0] (mkM h0 B D hi z s) (B + 123) i x = (stA 0 s 123 1024 i x).map (mkM h0 B D hi z) := by
  unfold stA
  by_cases hi2 : pm_in i 1024 = true
  · rw [if_pos hi2]; exact si_123 h hi2
  · rw [if_neg hi2]; exact sI_out (show ps_h (mkM h0 B D hi z s) (B + 123) = .inl (0, 1024, .inl (s.1 123)) from (mk_cell (fx_lt h (by decide)) (fx_123 h)).1) hi2
theorem aim_124 (h : FX D hi) {i : Int32} : aI [0, 6] (mkM h0 B D hi z s) (B + 124) i = rdA s 124 1024 i := by
  unfold rdA
  by_cases hi2 : pm_in i 1024 = true
  · rw [if_pos hi2]; exact ai_124 h hi2
  · rw [if_neg hi2]; exact aI_out (show ps_h (mkM h0 B D hi z s) (B + 124) = .inl (0, 1024, .inl (s.1 124)) from (mk_cell (fx_lt h (by decide)) (fx_124 h)).1) hi2
theorem sim_124 (h : FX D hi) {i x : Int32} : sI [0] (mkM h0 B D hi z s) (B + 124) i x = (stA 0 s 124 1024 i x).map (mkM h0 B D hi z) := by
  unfold stA
  by_cases hi2 : pm_in i 1024 = true
  · rw [if_pos hi2]; exact si_124 h hi2
  · rw [if_neg hi2]; exact sI_out (show ps_h (mkM h0 B D hi z s) (B + 124) = .inl (0, 1024, .inl (s.1 124)) from (mk_cell (fx_lt h (by decide)) (fx_124 h)).1) hi2
theorem aim_125 (h : FX D hi) {i : Int32} : aI [0, 6] (mkM h0 B D hi z s) (B + 125) i = rdA s 125 70 i := by
  unfold rdA
  by_cases hi2 : pm_in i 70 = true
  · rw [if_pos hi2]; exact ai_125 h hi2
  · rw [if_neg hi2]; exact aI_out (show ps_h (mkM h0 B D hi z s) (B + 125) = .inl (0, 70, .inl (s.1 125)) from (mk_cell (fx_lt h (by decide)) (fx_125 h)).1) hi2
theorem sim_125 (h : FX D hi) {i x : Int32} : sI [0] (mkM h0 B D hi z s) (B + 125) i x = (stA 0 s 125 70 i x).map (mkM h0 B D hi z) := by
  unfold stA
  by_cases hi2 : pm_in i 70 = true
  · rw [if_pos hi2]; exact si_125 h hi2
  · rw [if_neg hi2]; exact sI_out (show ps_h (mkM h0 B D hi z s) (B + 125) = .inl (0, 70, .inl (s.1 125)) from (mk_cell (fx_lt h (by decide)) (fx_125 h)).1) hi2
theorem aim_126 (h : FX D hi) {i : Int32} : aI [2, 3] (mkM h0 B D hi z s) (B + 126) i = rdA s 126 6 i := by
  unfold rdA
  by_cases hi2 : pm_in i 6 = true
  · rw [if_pos hi2]; exact ai_126 h hi2
  · rw [if_neg hi2]; exact aI_out (show ps_h (mkM h0 B D hi z s) (B + 126) = .inl (3, 6, .inl (s.1 126)) from (mk_cell (fx_lt h (by decide)) (fx_126 h)).1) hi2
theorem sim_126 (h : FX D hi) {i x : Int32} : sI [2, 3] (mkM h0 B D hi z s) (B + 126) i x = (stA 3 s 126 6 i x).map (mkM h0 B D hi z) := by
  unfold stA
  by_cases hi2 : pm_in i 6 = true
  · rw [if_pos hi2]; exact si_126 h hi2
  · rw [if_neg hi2]; exact sI_out (show ps_h (mkM h0 B D hi z s) (B + 126) = .inl (3, 6, .inl (s.1 126)) from (mk_cell (fx_lt h (by decide)) (fx_126 h)).1) hi2
theorem aim_127 (h : FX D hi) {i : Int32} : aI [2, 3] (mkM h0 B D hi z s) (B + 127) i = rdA s 127 10 i := by
  unfold rdA
  by_cases hi2 : pm_in i 10 = true
  · rw [if_pos hi2]; exact ai_127 h hi2
  · rw [if_neg hi2]; exact aI_out (show ps_h (mkM h0 B D hi z s) (B + 127) = .inl (3, 10, .inl (s.1 127)) from (mk_cell (fx_lt h (by decide)) (fx_127 h)).1) hi2
theorem sim_127 (h : FX D hi) {i x : Int32} : sI [2, 3] (mkM h0 B D hi z s) (B + 127) i x = (stA 3 s 127 10 i x).map (mkM h0 B D hi z) := by
  unfold stA
  by_cases hi2 : pm_in i 10 = true
  · rw [if_pos hi2]; exact si_127 h hi2
  · rw [if_neg hi2]; exact sI_out (show ps_h (mkM h0 B D hi z s) (B + 127) = .inl (3, 10, .inl (s.1 127)) from (mk_cell (fx_lt h (by decide)) (fx_127 h)).1) hi2
theorem aim_128 (h : FX D hi) {i : Int32} : aI [0, 6] (mkM h0 B D hi z s) (B + 128) i = rdA s 128 26 i := by
  unfold rdA
  by_cases hi2 : pm_in i 26 = true
  · rw [if_pos hi2]; exact ai_128 h hi2
  · rw [if_neg hi2]; exact aI_out (show ps_h (mkM h0 B D hi z s) (B + 128) = .inl (0, 26, .inl (s.1 128)) from (mk_cell (fx_lt h (by decide)) (fx_128 h)).1) hi2
theorem sim_128 (h : FX D hi) {i x : Int32} : sI [0] (mkM h0 B D hi z s) (B + 128) i x = (stA 0 s 128 26 i x).map (mkM h0 B D hi z) := by
  unfold stA
  by_cases hi2 : pm_in i 26 = true
  · rw [if_pos hi2]; exact si_128 h hi2
  · rw [if_neg hi2]; exact sI_out (show ps_h (mkM h0 B D hi z s) (B + 128) = .inl (0, 26, .inl (s.1 128)) from (mk_cell (fx_lt h (by decide)) (fx_128 h)).1) hi2
end MRD
