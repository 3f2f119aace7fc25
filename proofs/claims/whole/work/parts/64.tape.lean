/-! ===== the TAPE: size, end ===== -/
section TAPE
variable {h0 : Nat → pm_C} {B : Nat} {D : Nat → pd} {c : Nat → Nat → Int32} {e : Nat → Nat → Int64} {hi z N : Nat} {p : Int32}
theorem s_Tape_size (h : FX D hi) : F_Tape_size N (mkS h0 B D c e hi z) (B + 1) = some (c 1 1, mkS h0 B D c e hi z) := by
  simp only [F_Tape_size, rc_1 h, rd_1_1 h, if_true, Option.bind_some]
/-- end, in the class's cells -/
def g_end (c : Nat → Nat → Int32) (p : Int32) : Int32 × (Nat → Nat → Int32) := if p < 0 then (0, c) else if p ≤ c 1 1 then (1, up1 c 1 (upd (c 1) 1 p)) else (0, c)
theorem s_Tape_cutTo (h : FX D hi) : F_Tape_cutTo N (mkS h0 B D c e hi z) (B + 1) p = some ((g_end c p).1, mkS h0 B D (g_end c p).2 e hi z) := by
  simp only [F_Tape_cutTo, F_Tape_cutTo_12, rc_1 h, rd_1_1 h, wr_1_1 h, if_true, Option.bind_some, g_end]
  split
  · rfl
  · split <;> rfl
theorem g_end_01 : (g_end c p).1 = 0 ∨ (g_end c p).1 = 1 := by
  unfold g_end
  split
  · exact Or.inl rfl
  · split
    · exact Or.inr rfl
    · exact Or.inl rfl
theorem s_BP_end (h : FX D hi) : F_BP_end N (mkS h0 B D c e hi z) (B + 0) p = some ((g_end c p).1, mkS h0 B D (g_end c p).2 e hi z) := by
  simp only [F_BP_end, rc_0 h, rd_0_0 h, if_true, Option.bind_some, s_Tape_cutTo h, if_pos g_end_01]
/-- end, in the reference's cells -/
def gm_end (c : Nat → Nat → Int32) (p : Int32) : Int32 × (Nat → Nat → Int32) := if p < 0 then (0, up1 c 85 (upd (c 85) 0 0)) else if p ≤ c 85 2 then (1, up1 c 85 (upd (upd (c 85) 0 0) 2 p)) else (0, up1 c 85 (upd (c 85) 0 0))
theorem up1_up1 {α : Type} {c : Nat → Nat → α} {k : Nat} {f g : Nat → α} : up1 (up1 c k f) k g = up1 c k g := by
  funext q
  unfold up1
  split <;> rfl
theorem s_M_end (h : FX D hi) : F_M_end N (mkS h0 B D c e hi z) (B + 85) p = some ((gm_end c p).1, mkS h0 B D (gm_end c p).2 e hi z) := by
  simp only [F_M_end, F_M_end_17, rc_85 h, rd_85_2 h, wr_85_0 h, wr_85_2 h, if_true, Option.bind_some, gm_end, up1_same, up1_up1, pk_un (show (2 : Nat) ≠ 0 by decide)]
  split
  · rfl
  · split <;> rfl
/-- the TAPE as both hold it: as long, and byte by byte -/
def R_tape (c : Nat → Nat → Int32) : Prop := c 85 2 = c 1 1 ∧ 0 ≤ (c 1 1).toInt ∧ (c 1 1).toInt ≤ 300 ∧ ∀ i : Nat, i < (c 1 1).toNatClampNeg → c 2 i = c 86 i &&& 255
/-- end answers alike, and the TAPE stays alike -/
theorem r_end (hR : R_tape c) : (g_end c p).1 = (gm_end c p).1 ∧ R_tape (gm_end (g_end c p).2 p).2 := by
  sorry
end TAPE
