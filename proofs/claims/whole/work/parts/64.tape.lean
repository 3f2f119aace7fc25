/-! ===== the TAPE: size, end ===== -/
section TAPE
variable {h0 : Nat → pm_C} {B : Nat} {D : Nat → pd} {c : Nat → Nat → Int32} {e : Nat → Nat → Int64} {hi z N : Nat} {p : Int32}
theorem s_Tape_size (h : FX D hi) : F_Tape_size N (mkS h0 B D c e hi z) (B + 1) = some (c 1 1, mkS h0 B D c e hi z) := by
  simp only [F_Tape_size, rc_1 h, rd_1_1 h, if_true, Option.bind_some]
/-- end, in the class's cells -/
def g_end (c : Nat → Nat → Int32) (p : Int32) : Int32 × (Nat → Nat → Int32) := if p < 0 then (0, c) else if p ≤ c 1 1 then (1, up1 c 1 (upd (c 1) 1 p)) else (0, c)
theorem s_Tape_cutTo (h : FX D hi) : F_Tape_cutTo N (mkS h0 B D c e hi z) (B + 1) p = some ((g_end c p).1, mkS h0 B D (g_end c p).2 e hi z) := by
  simp only [F_Tape_cutTo, F_Tape_cutTo_12, rc_1 h, rd_1_1 h, wr_1_1 h, if_true, Option.bind_some, g_end]
  split
  · rfl
  · split <;> rfl
theorem g_end_01 : (g_end c p).1 = 0 ∨ (g_end c p).1 = 1 := by
  unfold g_end
  split
  · exact Or.inl rfl
  · split
    · exact Or.inr rfl
    · exact Or.inl rfl
theorem s_BP_end (h : FX D hi) : F_BP_end N (mkS h0 B D c e hi z) (B + 0) p = some ((g_end c p).1, mkS h0 B D (g_end c p).2 e hi z) := by
  simp only [F_BP_end, rc_0 h, rd_0_0 h, if_true, Option.bind_some, s_Tape_cutTo h, if_pos g_end_01]
/-- end, in the reference's cells -/
def gm_end (c : Nat → Nat → Int32) (p : Int32) : Int32 × (Nat → Nat → Int32) := if p < 0 then (0, up1 c 85 (upd (c 85) 0 0)) else if p ≤ c 85 2 then (1, up1 c 85 (upd (upd (c 85) 0 0) 2 p)) else (0, up1 c 85 (upd (c 85) 0 0))
theorem up1_up1 {α : Type} {c : Nat → Nat → α} {k : Nat} {f g : Nat → α} : up1 (up1 c k f) k g = up1 c k g := by
  funext q
  unfold up1
  split <;> rfl
theorem s_M_end (h : FX D hi) : F_M_end N (mkS h0 B D c e hi z) (B + 85) p = some ((gm_end c p).1, mkS h0 B D (gm_end c p).2 e hi z) := by
  simp only [F_M_end, F_M_end_17, rc_85 h, rd_85_2 h, wr_85_0 h, wr_85_2 h, if_true, Option.bind_some, gm_end, up1_same, up1_up1, pk_un (show (2 : Nat) ≠ 0 by decide)]
  split
  · rfl
  · split <;> rfl
/-- the TAPE as both hold it: as long, and byte by byte -/
def R_tape (c : Nat → Nat → Int32) : Prop := c 85 2 = c 1 1 ∧ 0 ≤ (c 1 1).toInt ∧ (c 1 1).toInt ≤ 300 ∧ ∀ i : Nat, i < (c 1 1).toNatClampNeg → c 2 i = c 86 i &&& 255
theorem R_tape_thrown {f : Nat → Int32} (hf : f 2 = c 85 2) (hR : R_tape c) : R_tape (up1 c 85 f) := by
  obtain ⟨h1, h2, h3, h4⟩ := hR
  refine ⟨?_, ?_, ?_, ?_⟩
  · rw [up1_same, up1_ne (by decide), hf]; exact h1
  · rw [up1_ne (by decide)]; exact h2
  · rw [up1_ne (by decide)]; exact h3
  · intro i hi
    rw [up1_ne (by decide)] at hi ⊢
    rw [up1_ne (by decide)]
    exact h4 i hi
/-- end answers alike, and the TAPE stays alike -/
theorem r_end (hR : R_tape c) : (g_end c p).1 = (gm_end (g_end c p).2 p).1 ∧ R_tape (gm_end (g_end c p).2 p).2 := by
  have hk : upd (c 85) 0 0 2 = c 85 2 := pk_un (by decide)
  by_cases h0 : p < 0
  · have e1 : g_end c p = (0, c) := by unfold g_end; rw [if_pos h0]
    have e2 : gm_end c p = (0, up1 c 85 (upd (c 85) 0 0)) := by unfold gm_end; rw [if_pos h0]
    rw [e1]
    dsimp only
    rw [e2]
    exact ⟨rfl, R_tape_thrown hk hR⟩
  · by_cases h1 : p ≤ c 1 1
    · have e1 : g_end c p = (1, up1 c 1 (upd (c 1) 1 p)) := by unfold g_end; rw [if_neg h0, if_pos h1]
      have hc85 : up1 c 1 (upd (c 1) 1 p) 85 = c 85 := up1_ne (by decide)
      have e2 : gm_end (up1 c 1 (upd (c 1) 1 p)) p = (1, up1 (up1 c 1 (upd (c 1) 1 p)) 85 (upd (upd (c 85) 0 0) 2 p)) := by
        unfold gm_end
        rw [if_neg h0, hc85, if_pos (by rw [hR.1]; exact h1)]
      rw [e1]
      dsimp only
      rw [e2]
      refine ⟨rfl, ?_⟩
      show R_tape (up1 (up1 c 1 (upd (c 1) 1 p)) 85 (upd (upd (c 85) 0 0) 2 p))
      generalize hc' : up1 (up1 c 1 (upd (c 1) 1 p)) 85 (upd (upd (c 85) 0 0) 2 p) = c'
      have a1 : c' 85 2 = p := by rw [← hc', up1_same, pk_us]
      have a2 : c' 1 1 = p := by rw [← hc', up1_ne (by decide), up1_same, pk_us]
      have a3 : c' 2 = c 2 := by rw [← hc', up1_ne (by decide), up1_ne (by decide)]
      have a4 : c' 86 = c 86 := by rw [← hc', up1_ne (by decide), up1_ne (by decide)]
      have b0 : 0 ≤ p.toInt := by
        have := Int32.le_iff_toInt_le.mp (Int32.not_lt.mp h0)
        simpa using this
      have b1 := Int32.le_iff_toInt_le.mp h1
      refine ⟨by rw [a1, a2], by rw [a2]; exact b0, by rw [a2]; exact Int.le_trans b1 hR.2.2.1, fun i hi => ?_⟩
      rw [a2] at hi
      rw [a3, a4]
      refine hR.2.2.2 i (Nat.lt_of_lt_of_le hi ?_)
      show p.toInt.toNat ≤ (c 1 1).toInt.toNat
      omega
    · have e1 : g_end c p = (0, c) := by unfold g_end; rw [if_neg h0, if_neg h1]
      have e2 : gm_end c p = (0, up1 c 85 (upd (c 85) 0 0)) := by unfold gm_end; rw [if_neg h0, if_neg (by rw [hR.1]; exact h1)]
      rw [e1]
      dsimp only
      rw [e2]
      exact ⟨rfl, R_tape_thrown hk hR⟩
end TAPE
