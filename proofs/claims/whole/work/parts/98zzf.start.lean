/-! ===== the first state ===== -/
section STA
variable {h0 : Nat → pm_C} {B : Nat} {D : Nat → pd} {z : Nat} {s : mst} {N : Nat}
def ow0 (k : Nat) : Nat := if 58 ≤ k ∧ k < 85 then 64 + (k - 58) else 0
theorem ST_le {D0 : Nat → pd} {s0 : mst} {n hi i : Nat} {M : List pd} (h : ST D0 s0 n M D hi s) (hi' : i < M.length) : D (n + i) = M.getD i (.inl (9, 0)) := by
  have e := h.2.1 i hi'
  rw [List.getD_eq_getElem?_getD, e]
  rfl
theorem pl_fx {hi : Nat} (h : FX D hi) : PL D hi 58 := ⟨fx_lt h (by decide), fx_58 h, ⟨fx_lt h (by decide), fx_59 h, ⟨fx_lt h (by decide), fx_60 h, by decide⟩⟩, ⟨fx_lt h (by decide), fx_61 h, by decide⟩, ⟨fx_lt h (by decide), fx_62 h, by decide⟩, ⟨fx_lt h (by decide), fx_63 h, ⟨fx_lt h (by decide), fx_64 h, by decide⟩, ⟨fx_lt h (by decide), fx_65 h, by decide⟩, ⟨fx_lt h (by decide), fx_66 h, by decide⟩, ⟨fx_lt h (by decide), fx_67 h, by decide⟩⟩, ⟨fx_lt h (by decide), fx_68 h, ⟨fx_lt h (by decide), fx_69 h, by decide⟩, ⟨fx_lt h (by decide), fx_70 h, by decide⟩, ⟨fx_lt h (by decide), fx_71 h, by decide⟩, ⟨fx_lt h (by decide), fx_72 h, by decide⟩⟩, ⟨fx_lt h (by decide), fx_73 h, ⟨fx_lt h (by decide), fx_74 h, by decide⟩⟩, ⟨fx_lt h (by decide), fx_75 h, ⟨fx_lt h (by decide), fx_76 h, by decide⟩⟩, ⟨fx_lt h (by decide), fx_77 h, ⟨fx_lt h (by decide), fx_78 h, by decide⟩⟩, ⟨fx_lt h (by decide), fx_79 h, ⟨fx_lt h (by decide), fx_80 h, by decide⟩⟩, ⟨fx_lt h (by decide), fx_81 h, by decide⟩, ⟨fx_lt h (by decide), fx_82 h⟩, ⟨fx_lt h (by decide), fx_83 h⟩, ⟨fx_lt h (by decide), fx_84 h, by decide⟩⟩
theorem i_all (hN : 1000 ≤ N) : ∃ D1 s1 D2 s2, F_BP_init N (mkM h0 B (upD D 0 (.inr (10, [(2, 0), (2, 0), (2, 0), (2, 0), (2, 0), (2, 0), (0, 0)]))) 1 (0 + 7) (up1 s.1 0 (nuls (fun j => [true, true, true, true, true, true, false].getD j false)), s.2)) (B + 0) = some (mkM h0 B D1 85 7788 s1) ∧ F_M_init N (mkM h0 B (upD D1 85 (.inr (11, [(0, 0), (2, 0), (0, 0), (0, 0), (0, 0), (0, 0), (2, 0), (2, 0), (2, 0), (2, 0), (2, 0), (2, 0), (2, 0), (2, 0), (2, 0), (2, 0), (2, 0), (2, 0), (2, 0), (0, 0), (2, 0), (2, 0), (2, 0), (2, 0), (2, 0), (2, 0), (2, 0), (2, 0), (2, 0), (0, 0), (0, 0), (0, 0), (0, 0), (0, 0), (0, 0), (2, 0), (2, 0), (2, 0), (2, 0), (2, 0), (2, 0), (2, 0), (2, 0), (2, 0), (2, 0), (2, 0), (2, 0), (2, 0), (2, 0), (2, 0), (2, 0), (0, 0), (0, 0), (2, 0), (2, 0), (2, 0), (2, 0), (0, 0)]))) 86 (7788 + 58) (up1 s1.1 85 (nuls (fun j => [false, true, false, false, false, false, true, true, true, true, true, true, true, true, true, true, true, true, true, false, true, true, true, true, true, true, true, true, true, false, false, false, false, false, false, true, true, true, true, true, true, true, true, true, true, true, true, true, true, true, true, false, false, true, true, true, true, false].getD j false)), s1.2)) (B + 85) = some (mkM h0 B D2 129 15437 s2) ∧ IAX 0 (upD D2 129 (.inl (1, 1))) 130 (15437 + 1) (s2.1, up1 s2.2 129 (fun _ => 0)) := by
  obtain ⟨D1, s1, e1, st1, a1, a2, a3, a4, a5⟩ := i_BP (h0 := h0) (B := B) (D := D) (z := 0) (s := s) (N := N) hN
  obtain ⟨D2, s2, e2, st2, b1, b2⟩ := i_M (h0 := h0) (B := B) (D := D1) (z := 7788) (s := s1) (N := N)
  refine ⟨D1, s1, D2, s2, e1, e2, ow0, 0, fun _ _ _ => 0, fun _ => 0, 58, 0, fun _ => 0, ?_⟩
  have lo : ∀ k, k < 85 → D2 k = D1 k ∧ s2.1 k = s1.1 k := st2.2.2
  have hFX : FX (upD D2 129 (.inl (1, 1))) 130 := by
    refine ⟨Nat.le_refl _, fun k hk => ?_⟩
    by_cases c : k = 129
    · subst c
      rw [upD_s]
      rfl
    · rw [upD_n c]
      by_cases d : k < 85
      · rw [(lo k d).1]
        have := ST_le st1 (i := k) d
        rw [Nat.zero_add] at this
        rw [this]
        have : ∀ k, k < 85 → ([.inr (10, [(1, 1), (1, 3), (1, 4), (1, 5), (1, 54), (2, 0), (0, 0)]), .inr (6, [(1, 2), (0, 0)]), .inl (0, 300), .inr (7, [(1, 1), (0, 0), (0, 0)]), .inl (4, 6), .inr (0, [(1, 6), (1, 47), (1, 52), (1, 53), (0, 0), (0, 0)]), .inr (9, [(1, 7), (1, 12), (1, 13), (1, 14), (1, 15), (1, 16), (1, 17), (1, 18), (1, 19), (2, 0), (2, 0), (0, 0), (0, 0)]), .inr (1, [(1, 8), (1, 9), (1, 10), (1, 11)]), .inl (0, 56), .inl (0, 56), .inl (0, 56), .inl (0, 10), .inl (0, 56), .inl (0, 56), .inl (0, 56), .inl (0, 10), .inl (0, 10), .inl (0, 10), .inl (0, 10), .inl (0, 10), .inr (4, [(0, 0), (1, 21), (1, 23), (1, 24), (1, 25), (1, 30), (1, 35), (1, 37), (1, 39), (1, 41), (1, 43), (1, 44)]), .inr (2, [(1, 22), (0, 0), (0, 0)]), .inl (0, 35), .inl (0, 8), .inl (0, 7), .inr (1, [(1, 26), (1, 27), (1, 28), (1, 29)]), .inl (0, 56), .inl (0, 56), .inl (0, 56), .inl (0, 10), .inr (1, [(1, 31), (1, 32), (1, 33), (1, 34)]), .inl (0, 56), .inl (0, 56), .inl (0, 56), .inl (0, 10), .inr (2, [(1, 36), (0, 0), (0, 0)]), .inl (0, 30), .inr (2, [(1, 38), (0, 0), (0, 0)]), .inl (0, 50), .inr (2, [(1, 40), (0, 0), (0, 0)]), .inl (0, 60), .inr (2, [(1, 42), (0, 0), (0, 0)]), .inl (0, 120), .inl (0, 10), .inr (5, [(1, 45), (1, 46), (0, 0), (0, 0), (0, 0)]), .inl (5, 24), .inl (0, 1024), .inr (8, [(1, 48), (1, 49), (1, 50), (1, 51), (0, 0)]), .inl (0, 56), .inl (0, 616), .inl (0, 7), .inl (0, 7), .inl (1, 10), .inl (0, 2776), .inr (3, [(1, 55), (1, 56), (1, 57), (0, 0), (0, 0), (0, 0)]), .inl (0, 10), .inl (0, 10), .inl (0, 20), .inr (4, [(0, 0), (1, 59), (1, 61), (1, 62), (1, 63), (1, 68), (1, 73), (1, 75), (1, 77), (1, 79), (1, 81), (1, 82)]), .inr (2, [(1, 60), (0, 0), (0, 0)]), .inl (0, 35), .inl (0, 8), .inl (0, 7), .inr (1, [(1, 64), (1, 65), (1, 66), (1, 67)]), .inl (0, 56), .inl (0, 56), .inl (0, 56), .inl (0, 10), .inr (1, [(1, 69), (1, 70), (1, 71), (1, 72)]), .inl (0, 56), .inl (0, 56), .inl (0, 56), .inl (0, 10), .inr (2, [(1, 74), (0, 0), (0, 0)]), .inl (0, 30), .inr (2, [(1, 76), (0, 0), (0, 0)]), .inl (0, 50), .inr (2, [(1, 78), (0, 0), (0, 0)]), .inl (0, 60), .inr (2, [(1, 80), (0, 0), (0, 0)]), .inl (0, 120), .inl (0, 10), .inr (5, [(1, 83), (1, 84), (0, 0), (0, 0), (0, 0)]), .inl (5, 24), .inl (0, 1024)] : List pd).getD k (.inl (9, 0)) = dfx.getD k (.inl (9, 0)) := by decide +kernel
        exact this k d
      · have := ST_le st2 (i := k - 85) (show k - 85 < 44 by omega)
        rw [show 85 + (k - 85) = k by omega] at this
        rw [this]
        have : ∀ k, k < 44 → ([.inr (11, [(0, 0), (1, 86), (0, 0), (0, 0), (0, 0), (0, 0), (1, 87), (1, 88), (1, 89), (1, 90), (1, 91), (1, 92), (1, 93), (1, 94), (1, 95), (1, 96), (1, 97), (1, 98), (1, 99), (0, 0), (1, 100), (1, 101), (1, 102), (1, 103), (1, 104), (1, 105), (1, 106), (1, 107), (1, 108), (0, 0), (0, 0), (0, 0), (0, 0), (0, 0), (0, 0), (1, 109), (1, 110), (1, 111), (1, 112), (1, 113), (1, 114), (1, 115), (1, 116), (1, 117), (1, 118), (1, 119), (1, 120), (1, 121), (1, 122), (1, 123), (1, 124), (0, 0), (0, 0), (1, 125), (1, 126), (1, 127), (1, 128), (0, 0)]), .inl (2, 300), .inl (0, 7), .inl (0, 7), .inl (0, 49), .inl (0, 49), .inl (0, 49), .inl (0, 49), .inl (0, 7), .inl (0, 420), .inl (0, 420), .inl (0, 420), .inl (0, 420), .inl (0, 420), .inl (0, 7), .inl (0, 7), .inl (0, 60), .inl (0, 60), .inl (0, 60), .inl (0, 60), .inl (0, 60), .inl (0, 42), .inl (0, 42), .inl (0, 42), .inl (3, 462), .inl (1, 10), .inl (0, 7), .inl (0, 72), .inl (0, 72), .inl (0, 72), .inl (0, 72), .inl (0, 72), .inl (0, 72), .inl (0, 7), .inl (0, 144), .inl (0, 144), .inl (3, 144), .inl (3, 1024), .inl (0, 1024), .inl (0, 1024), .inl (0, 70), .inl (3, 6), .inl (3, 10), .inl (0, 26)] : List pd).getD k (.inl (9, 0)) = dfx.getD (85 + k) (.inl (9, 0)) := by decide +kernel
        rw [this (k - 85) (by omega), show 85 + (k - 85) = k by omega]
  have hPL : PL (upD D2 129 (.inl (1, 1))) 130 58 := pl_fx hFX
  refine ⟨⟨hFX, fun k hk => if_neg (by omega), fun k k1 k2 => if_neg (by omega), fun v hv => ?_, by omega, b2, ?_, by decide, fun t ht => by omega⟩, ⟨hPL, fun r hr => ?_, Or.inl rfl, by decide, ?_, ?_⟩, ⟨by decide, ?_, b1, fun i hi => by omega⟩, ?_⟩
  · show s2.1 53 v = _
    rw [(lo 53 (by decide)).2]
    exact a4 v
  · show s2.1 0 6 = _
    rw [(lo 0 (by decide)).2]
    exact a2
  · unfold ow0
    rw [if_pos (by omega)]
    omega
  · show s2.1 0 5 = _
    rw [(lo 0 (by decide)).2]
    exact a1
  · exact DRs_eq a5 (fun k k1 k2 => (lo k (by omega)).2)
  · show s2.1 1 1 = _
    rw [(lo 1 (by decide)).2]
    exact a3
  · show 130 + 0 + 51 * (6 - 0) ≤ 436 + 0 ∧ (15437 + 1) + 1024 * 0 + 30000 * (6 - 0) ≤ 200000 + 6 * 0 ∧ 0 ≤ 10000
    decide
end STA
