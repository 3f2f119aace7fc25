section INJ
variable {h0 : Nat → pm_C} {B : Nat} {D : Nat → pd} {z : Nat} {s : mst} {N : Nat}
theorem o_gen {ci : Nat} {bs : List Bool} {y : Nat → Int64} : (Sum.inr (ci, bs.map (fun b => if b then Value.null else .int 0)) : pm_C) = tC B (.inr (ci, bs.map (fun b => if b then (2, 0) else (0, 0)))) (nuls (fun j => bs.getD j false)) y := by
  show Sum.inr (ci, _) = Sum.inr (ci, List.mapIdx (fun j t => fv B (nuls (fun j => bs.getD j false)) j t) (bs.map (fun b => if b then (2, 0) else (0, 0))))
  congr 2
  apply List.ext_getElem?
  intro i
  rw [List.getElem?_map, List.getElem?_mapIdx, List.getElem?_map]
  cases h : bs[i]? with
  | none => rfl
  | some b =>
    have e : bs.getD i false = b := by rw [List.getD_eq_getElem?_getD, h]; rfl
    simp only [Option.map_some]
    cases b with
    | true => rw [if_pos rfl, if_pos rfl, fv_n (by show (if bs.getD i false = true then (-1 : Int32) else 0) = -1; rw [e]; rfl)]
    | false => rw [if_neg (by decide), if_neg (by decide), fv_0 (by show (if bs.getD i false = true then (-1 : Int32) else 0) = 0; rw [e]; rfl)]
theorem pb_20 {D' : Nat → pd} {s' : mst} (h : PL D' 47 20) (b : BEL D 20 s D' 47 s') : ST D s 20 [.inr (4, [(0, 0), (1, 21), (1, 23), (1, 24), (1, 25), (1, 30), (1, 35), (1, 37), (1, 39), (1, 41), (1, 43), (1, 44)]), .inr (2, [(1, 22), (0, 0), (0, 0)]), .inl (0, 35), .inl (0, 8), .inl (0, 7), .inr (1, [(1, 26), (1, 27), (1, 28), (1, 29)]), .inl (0, 56), .inl (0, 56), .inl (0, 56), .inl (0, 10), .inr (1, [(1, 31), (1, 32), (1, 33), (1, 34)]), .inl (0, 56), .inl (0, 56), .inl (0, 56), .inl (0, 10), .inr (2, [(1, 36), (0, 0), (0, 0)]), .inl (0, 30), .inr (2, [(1, 38), (0, 0), (0, 0)]), .inl (0, 50), .inr (2, [(1, 40), (0, 0), (0, 0)]), .inl (0, 60), .inr (2, [(1, 42), (0, 0), (0, 0)]), .inl (0, 120), .inl (0, 10), .inr (5, [(1, 45), (1, 46), (0, 0), (0, 0), (0, 0)]), .inl (5, 24), .inl (0, 1024)] D' 47 s' := by
  obtain ⟨a0, a1, ⟨_, b1, _, b2, _⟩, ⟨_, b3, _⟩, ⟨_, b4, _⟩, ⟨_, c0, ⟨_, c1, _⟩, ⟨_, c2, _⟩, ⟨_, c3, _⟩, ⟨_, c4, _⟩⟩, ⟨_, d0, ⟨_, d1, _⟩, ⟨_, d2, _⟩, ⟨_, d3, _⟩, ⟨_, d4, _⟩⟩, ⟨_, e1, _, e2, _⟩, ⟨_, e3, _, e4, _⟩, ⟨_, e5, _, e6, _⟩, ⟨_, e7, _, e8, _⟩, ⟨_, f1, _⟩, ⟨_, f2⟩, ⟨_, f3⟩, ⟨_, f4, _⟩⟩ := h
  refine ⟨rfl, fun i hi' => ?_, b.2.1⟩
  match i, hi' with
  | 0, _ => exact congrArg some a1.symm
  | 1, _ => exact congrArg some b1.symm
  | 2, _ => exact congrArg some b2.symm
  | 3, _ => exact congrArg some b3.symm
  | 4, _ => exact congrArg some b4.symm
  | 5, _ => exact congrArg some c0.symm
  | 6, _ => exact congrArg some c1.symm
  | 7, _ => exact congrArg some c2.symm
  | 8, _ => exact congrArg some c3.symm
  | 9, _ => exact congrArg some c4.symm
  | 10, _ => exact congrArg some d0.symm
  | 11, _ => exact congrArg some d1.symm
  | 12, _ => exact congrArg some d2.symm
  | 13, _ => exact congrArg some d3.symm
  | 14, _ => exact congrArg some d4.symm
  | 15, _ => exact congrArg some e1.symm
  | 16, _ => exact congrArg some e2.symm
  | 17, _ => exact congrArg some e3.symm
  | 18, _ => exact congrArg some e4.symm
  | 19, _ => exact congrArg some e5.symm
  | 20, _ => exact congrArg some e6.symm
  | 21, _ => exact congrArg some e7.symm
  | 22, _ => exact congrArg some e8.symm
  | 23, _ => exact congrArg some f1.symm
  | 24, _ => exact congrArg some f2.symm
  | 25, _ => exact congrArg some f3.symm
  | 26, _ => exact congrArg some f4.symm
  | k + 27, hk => exact absurd hk (by simp)
theorem pb_58 {D' : Nat → pd} {s' : mst} (h : PL D' 85 58) (b : BEL D 58 s D' 85 s') : ST D s 58 [.inr (4, [(0, 0), (1, 59), (1, 61), (1, 62), (1, 63), (1, 68), (1, 73), (1, 75), (1, 77), (1, 79), (1, 81), (1, 82)]), .inr (2, [(1, 60), (0, 0), (0, 0)]), .inl (0, 35), .inl (0, 8), .inl (0, 7), .inr (1, [(1, 64), (1, 65), (1, 66), (1, 67)]), .inl (0, 56), .inl (0, 56), .inl (0, 56), .inl (0, 10), .inr (1, [(1, 69), (1, 70), (1, 71), (1, 72)]), .inl (0, 56), .inl (0, 56), .inl (0, 56), .inl (0, 10), .inr (2, [(1, 74), (0, 0), (0, 0)]), .inl (0, 30), .inr (2, [(1, 76), (0, 0), (0, 0)]), .inl (0, 50), .inr (2, [(1, 78), (0, 0), (0, 0)]), .inl (0, 60), .inr (2, [(1, 80), (0, 0), (0, 0)]), .inl (0, 120), .inl (0, 10), .inr (5, [(1, 83), (1, 84), (0, 0), (0, 0), (0, 0)]), .inl (5, 24), .inl (0, 1024)] D' 85 s' := by
  obtain ⟨a0, a1, ⟨_, b1, _, b2, _⟩, ⟨_, b3, _⟩, ⟨_, b4, _⟩, ⟨_, c0, ⟨_, c1, _⟩, ⟨_, c2, _⟩, ⟨_, c3, _⟩, ⟨_, c4, _⟩⟩, ⟨_, d0, ⟨_, d1, _⟩, ⟨_, d2, _⟩, ⟨_, d3, _⟩, ⟨_, d4, _⟩⟩, ⟨_, e1, _, e2, _⟩, ⟨_, e3, _, e4, _⟩, ⟨_, e5, _, e6, _⟩, ⟨_, e7, _, e8, _⟩, ⟨_, f1, _⟩, ⟨_, f2⟩, ⟨_, f3⟩, ⟨_, f4, _⟩⟩ := h
  refine ⟨rfl, fun i hi' => ?_, b.2.1⟩
  match i, hi' with
  | 0, _ => exact congrArg some a1.symm
  | 1, _ => exact congrArg some b1.symm
  | 2, _ => exact congrArg some b2.symm
  | 3, _ => exact congrArg some b3.symm
  | 4, _ => exact congrArg some b4.symm
  | 5, _ => exact congrArg some c0.symm
  | 6, _ => exact congrArg some c1.symm
  | 7, _ => exact congrArg some c2.symm
  | 8, _ => exact congrArg some c3.symm
  | 9, _ => exact congrArg some c4.symm
  | 10, _ => exact congrArg some d0.symm
  | 11, _ => exact congrArg some d1.symm
  | 12, _ => exact congrArg some d2.symm
  | 13, _ => exact congrArg some d3.symm
  | 14, _ => exact congrArg some d4.symm
  | 15, _ => exact congrArg some e1.symm
  | 16, _ => exact congrArg some e2.symm
  | 17, _ => exact congrArg some e3.symm
  | 18, _ => exact congrArg some e4.symm
  | 19, _ => exact congrArg some e5.symm
  | 20, _ => exact congrArg some e6.symm
  | 21, _ => exact congrArg some e7.symm
  | 22, _ => exact congrArg some e8.symm
  | 23, _ => exact congrArg some f1.symm
  | 24, _ => exact congrArg some f2.symm
  | 25, _ => exact congrArg some f3.symm
  | 26, _ => exact congrArg some f4.symm
  | k + 27, hk => exact absurd hk (by simp)
theorem lb_7 {D' : Nat → pd} {s' : mst} (h : LT D' 12 7) (b : BEL D 7 s D' 12 s') : ST D s 7 [.inr (1, [(1, 8), (1, 9), (1, 10), (1, 11)]), .inl (0, 56), .inl (0, 56), .inl (0, 56), .inl (0, 10)] D' 12 s' := by
  obtain ⟨_, c0, ⟨_, c1, _⟩, ⟨_, c2, _⟩, ⟨_, c3, _⟩, ⟨_, c4, _⟩⟩ := h
  refine ⟨rfl, fun i hi' => ?_, b.2.1⟩
  match i, hi' with
  | 0, _ => exact congrArg some c0.symm
  | 1, _ => exact congrArg some c1.symm
  | 2, _ => exact congrArg some c2.symm
  | 3, _ => exact congrArg some c3.symm
  | 4, _ => exact congrArg some c4.symm
  | k + 5, hk => exact absurd hk (by simp)
theorem i_plan20 (hN : 1000 ≤ N) : ∃ D' s', F_Plan_init N (mkM h0 B (upD D 20 (.inr (4, [(0, 0), (2, 0), (2, 0), (2, 0), (2, 0), (2, 0), (2, 0), (2, 0), (2, 0), (2, 0), (2, 0), (2, 0)]))) 21 (z + 12) (up1 s.1 20 (nuls (fun j => decide (0 < j))), s.2)) (B + 20) = some (mkM h0 B D' 47 (z + 1764) s') ∧ ST D s 20 [.inr (4, [(0, 0), (1, 21), (1, 23), (1, 24), (1, 25), (1, 30), (1, 35), (1, 37), (1, 39), (1, 41), (1, 43), (1, 44)]), .inr (2, [(1, 22), (0, 0), (0, 0)]), .inl (0, 35), .inl (0, 8), .inl (0, 7), .inr (1, [(1, 26), (1, 27), (1, 28), (1, 29)]), .inl (0, 56), .inl (0, 56), .inl (0, 56), .inl (0, 10), .inr (1, [(1, 31), (1, 32), (1, 33), (1, 34)]), .inl (0, 56), .inl (0, 56), .inl (0, 56), .inl (0, 10), .inr (2, [(1, 36), (0, 0), (0, 0)]), .inl (0, 30), .inr (2, [(1, 38), (0, 0), (0, 0)]), .inl (0, 50), .inr (2, [(1, 40), (0, 0), (0, 0)]), .inl (0, 60), .inr (2, [(1, 42), (0, 0), (0, 0)]), .inl (0, 120), .inl (0, 10), .inr (5, [(1, 45), (1, 46), (0, 0), (0, 0), (0, 0)]), .inl (5, 24), .inl (0, 1024)] D' 47 s' ∧ DRs s' 20 := by
  obtain ⟨D', s', e, b, p, d⟩ := new_pla (h0 := h0) (B := B) (D := D) (hi := 20) (z := z) (s := s) (N := N) hN
  exact ⟨D', s', e, pb_20 p b, d⟩
theorem i_plan58 (hN : 1000 ≤ N) : ∃ D' s', F_Plan_init N (mkM h0 B (upD D 58 (.inr (4, [(0, 0), (2, 0), (2, 0), (2, 0), (2, 0), (2, 0), (2, 0), (2, 0), (2, 0), (2, 0), (2, 0), (2, 0)]))) 59 (z + 12) (up1 s.1 58 (nuls (fun j => decide (0 < j))), s.2)) (B + 58) = some (mkM h0 B D' 85 (z + 1764) s') ∧ ST D s 58 [.inr (4, [(0, 0), (1, 59), (1, 61), (1, 62), (1, 63), (1, 68), (1, 73), (1, 75), (1, 77), (1, 79), (1, 81), (1, 82)]), .inr (2, [(1, 60), (0, 0), (0, 0)]), .inl (0, 35), .inl (0, 8), .inl (0, 7), .inr (1, [(1, 64), (1, 65), (1, 66), (1, 67)]), .inl (0, 56), .inl (0, 56), .inl (0, 56), .inl (0, 10), .inr (1, [(1, 69), (1, 70), (1, 71), (1, 72)]), .inl (0, 56), .inl (0, 56), .inl (0, 56), .inl (0, 10), .inr (2, [(1, 74), (0, 0), (0, 0)]), .inl (0, 30), .inr (2, [(1, 76), (0, 0), (0, 0)]), .inl (0, 50), .inr (2, [(1, 78), (0, 0), (0, 0)]), .inl (0, 60), .inr (2, [(1, 80), (0, 0), (0, 0)]), .inl (0, 120), .inl (0, 10), .inr (5, [(1, 83), (1, 84), (0, 0), (0, 0), (0, 0)]), .inl (5, 24), .inl (0, 1024)] D' 85 s' ∧ DRs s' 58 := by
  obtain ⟨D', s', e, b, p, d⟩ := new_pla (h0 := h0) (B := B) (D := D) (hi := 58) (z := z) (s := s) (N := N) hN
  exact ⟨D', s', e, pb_58 p b, d⟩
theorem i_lay7 (hN : 1000 ≤ N) : ∃ D' s', F_Layout_init N (mkM h0 B (upD D 7 (.inr (1, [(2, 0), (2, 0), (2, 0), (2, 0)]))) 8 (z + 4) (up1 s.1 7 (nuls (fun _ => true)), s.2)) (B + 7) = some (mkM h0 B D' 12 (z + 182) s') ∧ ST D s 7 [.inr (1, [(1, 8), (1, 9), (1, 10), (1, 11)]), .inl (0, 56), .inl (0, 56), .inl (0, 56), .inl (0, 10)] D' 12 s' ∧ True := by
  obtain ⟨D', s', e, b, p, d⟩ := new_lay (h0 := h0) (B := B) (D := D) (hi := 7) (z := z) (s := s) (N := N) hN
  exact ⟨D', s', e, lb_7 p b, trivial⟩
theorem o_tape {y : Nat → Int64} : (Sum.inr (6, [.null, .int 0]) : pm_C) = tC B (.inr (6, [(2, 0), (0, 0)])) (nuls (fun j => [true, false].getD j false)) y := o_gen (bs := [true, false])
theorem i_Tape : ∃ D' s', F_Tape_init N (mkM h0 B (upD D 1 (.inr (6, [(2, 0), (0, 0)]))) 2 (z + 2) (up1 s.1 1 (nuls (fun j => [true, false].getD j false)), s.2)) (B + 1) = some (mkM h0 B D' 3 (z + 302) s') ∧ ST D s 1 [.inr (6, [(1, 2), (0, 0)]), .inl (0, 300)] D' 3 s' ∧ s'.1 1 1 = 0 := by
  have st0 : ST D s 1 [.inr (6, [(2, 0), (0, 0)])] (upD D 1 (.inr (6, [(2, 0), (0, 0)]))) 2 (up1 s.1 1 (nuls (fun j => [true, false].getD j false)), s.2) := ST_new
  generalize upD D 1 (.inr (6, [(2, 0), (0, 0)])) = D1 at st0 ⊢
  generalize hs1 : ((up1 s.1 1 (nuls (fun j => [true, false].getD j false)), s.2) : mst) = s1 at st0 ⊢
  obtain ⟨A1, x1, e1, st1, k1, v1⟩ := sa_ar (h0 := h0) (B := B) (z := z + 2) (ty := .array .int) (v := 300) (m := 300) (j := 0) (t := 0) (M' := [.inr (6, [(1, 2), (0, 0)]), .inl (0, 300)]) (hi' := 3) (z' := z + 302) st0 rfl (Or.inl rfl) rfl (by decide) (by decide) (fun _ => rfl) rfl rfl (by omega)
  obtain ⟨x2, e2, st2, k2, v2⟩ := sa_i (h0 := h0) (B := B) (z := z + 302) (v := 0) (j := 1) (w := 0) st1 rfl rfl
  refine ⟨A1, x2, ?_, st2, ?_⟩
  · unfold F_Tape_init
    rw [rcv_st st0 rfl, if_pos rfl, my_st st0 rfl, if_pos rfl]
    refine (e1 _).trans ?_
    rw [e2, Option.bind_some]
  · rw [v2 1, if_pos rfl]
theorem o_tone {y : Nat → Int64} : (Sum.inr (8, [.null, .null, .null, .null, .int 0]) : pm_C) = tC B (.inr (8, [(2, 0), (2, 0), (2, 0), (2, 0), (0, 0)])) (nuls (fun j => [true, true, true, true, false].getD j false)) y := o_gen (bs := [true, true, true, true, false])
theorem i_Tone : ∃ D' s', F_Tone_init N (mkM h0 B (upD D 47 (.inr (8, [(2, 0), (2, 0), (2, 0), (2, 0), (0, 0)]))) 48 (z + 5) (up1 s.1 47 (nuls (fun j => [true, true, true, true, false].getD j false)), s.2)) (B + 47) = some (mkM h0 B D' 52 (z + 691) s') ∧ ST D s 47 [.inr (8, [(1, 48), (1, 49), (1, 50), (1, 51), (0, 0)]), .inl (0, 56), .inl (0, 616), .inl (0, 7), .inl (0, 7)] D' 52 s' ∧ True := by
  have st0 : ST D s 47 [.inr (8, [(2, 0), (2, 0), (2, 0), (2, 0), (0, 0)])] (upD D 47 (.inr (8, [(2, 0), (2, 0), (2, 0), (2, 0), (0, 0)]))) 48 (up1 s.1 47 (nuls (fun j => [true, true, true, true, false].getD j false)), s.2) := ST_new
  generalize upD D 47 (.inr (8, [(2, 0), (2, 0), (2, 0), (2, 0), (0, 0)])) = D1 at st0 ⊢
  generalize hs1 : ((up1 s.1 47 (nuls (fun j => [true, true, true, true, false].getD j false)), s.2) : mst) = s1 at st0 ⊢
  obtain ⟨A1, x1, e1, st1, k1, v1⟩ := sa_ar (h0 := h0) (B := B) (z := z + 5) (ty := .array .int) (v := 56) (m := 56) (j := 0) (t := 0) (M' := [.inr (8, [(1, 48), (2, 0), (2, 0), (2, 0), (0, 0)]), .inl (0, 56)]) (hi' := 49) (z' := z + 61) st0 rfl (Or.inl rfl) rfl (by decide) (by decide) (fun _ => rfl) rfl rfl (by omega)
  obtain ⟨A2, x2, e2, st2, k2, v2⟩ := sa_ar (h0 := h0) (B := B) (z := z + 61) (ty := .array .int) (v := 616) (m := 616) (j := 1) (t := 0) (M' := [.inr (8, [(1, 48), (1, 49), (2, 0), (2, 0), (0, 0)]), .inl (0, 56), .inl (0, 616)]) (hi' := 50) (z' := z + 677) st1 rfl (Or.inl rfl) rfl (by decide) (by decide) (fun _ => rfl) rfl rfl (by omega)
  obtain ⟨A3, x3, e3, st3, k3, v3⟩ := sa_ar (h0 := h0) (B := B) (z := z + 677) (ty := .array .int) (v := 7) (m := 7) (j := 2) (t := 0) (M' := [.inr (8, [(1, 48), (1, 49), (1, 50), (2, 0), (0, 0)]), .inl (0, 56), .inl (0, 616), .inl (0, 7)]) (hi' := 51) (z' := z + 684) st2 rfl (Or.inl rfl) rfl (by decide) (by decide) (fun _ => rfl) rfl rfl (by omega)
  obtain ⟨A4, x4, e4, st4, k4, v4⟩ := sa_ar (h0 := h0) (B := B) (z := z + 684) (ty := .array .int) (v := 7) (m := 7) (j := 3) (t := 0) (M' := [.inr (8, [(1, 48), (1, 49), (1, 50), (1, 51), (0, 0)]), .inl (0, 56), .inl (0, 616), .inl (0, 7), .inl (0, 7)]) (hi' := 52) (z' := z + 691) st3 rfl (Or.inl rfl) rfl (by decide) (by decide) (fun _ => rfl) rfl rfl (by omega)
  obtain ⟨x5, e5, st5, k5, v5⟩ := sa_i (h0 := h0) (B := B) (z := z + 691) (v := 0) (j := 4) (w := 0) st4 rfl rfl
  refine ⟨A4, x5, ?_, st5, ?_⟩
  · unfold F_Tone_init
    rw [rcv_st st0 rfl, if_pos rfl, my_st st0 rfl, if_pos rfl]
    refine (e1 _).trans ?_
    refine (e2 _).trans ?_
    refine (e3 _).trans ?_
    refine (e4 _).trans ?_
    rw [e5, Option.bind_some]
  · trivial
theorem o_mov {y : Nat → Int64} : (Sum.inr (3, [.null, .null, .null, .int 0, .int 0, .int 0]) : pm_C) = tC B (.inr (3, [(2, 0), (2, 0), (2, 0), (0, 0), (0, 0), (0, 0)])) (nuls (fun j => [true, true, true, false, false, false].getD j false)) y := o_gen (bs := [true, true, true, false, false, false])
theorem i_Mover : ∃ D' s', F_Mover_init N (mkM h0 B (upD D 54 (.inr (3, [(2, 0), (2, 0), (2, 0), (0, 0), (0, 0), (0, 0)]))) 55 (z + 6) (up1 s.1 54 (nuls (fun j => [true, true, true, false, false, false].getD j false)), s.2)) (B + 54) = some (mkM h0 B D' 58 (z + 46) s') ∧ ST D s 54 [.inr (3, [(1, 55), (1, 56), (1, 57), (0, 0), (0, 0), (0, 0)]), .inl (0, 10), .inl (0, 10), .inl (0, 20)] D' 58 s' ∧ True := by
  have st0 : ST D s 54 [.inr (3, [(2, 0), (2, 0), (2, 0), (0, 0), (0, 0), (0, 0)])] (upD D 54 (.inr (3, [(2, 0), (2, 0), (2, 0), (0, 0), (0, 0), (0, 0)]))) 55 (up1 s.1 54 (nuls (fun j => [true, true, true, false, false, false].getD j false)), s.2) := ST_new
  generalize upD D 54 (.inr (3, [(2, 0), (2, 0), (2, 0), (0, 0), (0, 0), (0, 0)])) = D1 at st0 ⊢
  generalize hs1 : ((up1 s.1 54 (nuls (fun j => [true, true, true, false, false, false].getD j false)), s.2) : mst) = s1 at st0 ⊢
  obtain ⟨A1, x1, e1, st1, k1, v1⟩ := sa_ar (h0 := h0) (B := B) (z := z + 6) (ty := .array .int) (v := 10) (m := 10) (j := 0) (t := 0) (M' := [.inr (3, [(1, 55), (2, 0), (2, 0), (0, 0), (0, 0), (0, 0)]), .inl (0, 10)]) (hi' := 56) (z' := z + 16) st0 rfl (Or.inl rfl) rfl (by decide) (by decide) (fun _ => rfl) rfl rfl (by omega)
  obtain ⟨A2, x2, e2, st2, k2, v2⟩ := sa_ar (h0 := h0) (B := B) (z := z + 16) (ty := .array .int) (v := 10) (m := 10) (j := 1) (t := 0) (M' := [.inr (3, [(1, 55), (1, 56), (2, 0), (0, 0), (0, 0), (0, 0)]), .inl (0, 10), .inl (0, 10)]) (hi' := 57) (z' := z + 26) st1 rfl (Or.inl rfl) rfl (by decide) (by decide) (fun _ => rfl) rfl rfl (by omega)
  obtain ⟨A3, x3, e3, st3, k3, v3⟩ := sa_ar (h0 := h0) (B := B) (z := z + 26) (ty := .array .int) (v := 20) (m := 20) (j := 2) (t := 0) (M' := [.inr (3, [(1, 55), (1, 56), (1, 57), (0, 0), (0, 0), (0, 0)]), .inl (0, 10), .inl (0, 10), .inl (0, 20)]) (hi' := 58) (z' := z + 46) st2 rfl (Or.inl rfl) rfl (by decide) (by decide) (fun _ => rfl) rfl rfl (by omega)
  obtain ⟨x4, e4, st4, k4, v4⟩ := sa_i (h0 := h0) (B := B) (z := z + 46) (v := 0) (j := 3) (w := 0) st3 rfl rfl
  obtain ⟨x5, e5, st5, k5, v5⟩ := sa_i (h0 := h0) (B := B) (z := z + 46) (v := 0) (j := 4) (w := 0) st4 rfl rfl
  obtain ⟨x6, e6, st6, k6, v6⟩ := sa_i (h0 := h0) (B := B) (z := z + 46) (v := 0) (j := 5) (w := 0) st5 rfl rfl
  refine ⟨A3, x6, ?_, st6, ?_⟩
  · unfold F_Mover_init
    rw [rcv_st st0 rfl, if_pos rfl, my_st st0 rfl, if_pos rfl]
    refine (e1 _).trans ?_
    refine (e2 _).trans ?_
    refine (e3 _).trans ?_
    rw [e4, Option.bind_some]
    rw [e5, Option.bind_some]
    rw [e6, Option.bind_some]
  · trivial
theorem o_rd {y : Nat → Int64} : (Sum.inr (7, [.null, .int 0, .int 0]) : pm_C) = tC B (.inr (7, [(2, 0), (0, 0), (0, 0)])) (nuls (fun j => [true, false, false].getD j false)) y := o_gen (bs := [true, false, false])
theorem i_Reader : ∃ D' s', F_Reader_init N (mkM h0 B (upD D 3 (.inr (7, [(2, 0), (0, 0), (0, 0)]))) 4 (z + 3) (up1 s.1 3 (nuls (fun j => [true, false, false].getD j false)), s.2)) (B + 3) (B + 1) = some (mkM h0 B D' 4 (z + 3) s') ∧ ST D s 3 [.inr (7, [(1, 1), (0, 0), (0, 0)])] D' 4 s' ∧ True := by
  have st0 : ST D s 3 [.inr (7, [(2, 0), (0, 0), (0, 0)])] (upD D 3 (.inr (7, [(2, 0), (0, 0), (0, 0)]))) 4 (up1 s.1 3 (nuls (fun j => [true, false, false].getD j false)), s.2) := ST_new
  generalize upD D 3 (.inr (7, [(2, 0), (0, 0), (0, 0)])) = D1 at st0 ⊢
  generalize hs1 : ((up1 s.1 3 (nuls (fun j => [true, false, false].getD j false)), s.2) : mst) = s1 at st0 ⊢
  obtain ⟨A1, e1, st1⟩ := sa_n (h0 := h0) (B := B) (z := z + 3) (q := 1) (j := 0) (ty := .object "BuriedPairs$Tape") (M' := [.inr (7, [(1, 1), (0, 0), (0, 0)])]) st0 rfl (by decide) rfl rfl
  obtain ⟨x2, e2, st2, k2, v2⟩ := sa_i (h0 := h0) (B := B) (z := z + 3) (v := 0) (j := 1) (w := 0) st1 rfl rfl
  obtain ⟨x3, e3, st3, k3, v3⟩ := sa_i (h0 := h0) (B := B) (z := z + 3) (v := -1) (j := 2) (w := 0) st2 rfl rfl
  refine ⟨A1, x3, ?_, st3, ?_⟩
  · unfold F_Reader_init
    rw [rcv_st st0 rfl, if_pos rfl, my_st st0 rfl, if_pos rfl]
    rw [e1, Option.bind_some]
    rw [e2, Option.bind_some]
    rw [e3, Option.bind_some]
  · trivial
theorem o_wir {y : Nat → Int64} : (Sum.inr (9, [.null, .null, .null, .null, .null, .null, .null, .null, .null, .null, .null, .int 0, .int 0]) : pm_C) = tC B (.inr (9, [(2, 0), (2, 0), (2, 0), (2, 0), (2, 0), (2, 0), (2, 0), (2, 0), (2, 0), (2, 0), (2, 0), (0, 0), (0, 0)])) (nuls (fun j => [true, true, true, true, true, true, true, true, true, true, true, false, false].getD j false)) y := o_gen (bs := [true, true, true, true, true, true, true, true, true, true, true, false, false])
theorem i_Wires (hN : 1000 ≤ N) : ∃ D' s', F_Wires_init N (mkM h0 B (upD D 6 (.inr (9, [(2, 0), (2, 0), (2, 0), (2, 0), (2, 0), (2, 0), (2, 0), (2, 0), (2, 0), (2, 0), (2, 0), (0, 0), (0, 0)]))) 7 (z + 13) (up1 s.1 6 (nuls (fun j => [true, true, true, true, true, true, true, true, true, true, true, false, false].getD j false)), s.2)) (B + 6) = some (mkM h0 B D' 47 (z + 2177) s') ∧ ST D s 6 [.inr (9, [(1, 7), (1, 12), (1, 13), (1, 14), (1, 15), (1, 16), (1, 17), (1, 18), (1, 19), (2, 0), (2, 0), (0, 0), (0, 0)]), .inr (1, [(1, 8), (1, 9), (1, 10), (1, 11)]), .inl (0, 56), .inl (0, 56), .inl (0, 56), .inl (0, 10), .inl (0, 56), .inl (0, 56), .inl (0, 56), .inl (0, 10), .inl (0, 10), .inl (0, 10), .inl (0, 10), .inl (0, 10), .inr (4, [(0, 0), (1, 21), (1, 23), (1, 24), (1, 25), (1, 30), (1, 35), (1, 37), (1, 39), (1, 41), (1, 43), (1, 44)]), .inr (2, [(1, 22), (0, 0), (0, 0)]), .inl (0, 35), .inl (0, 8), .inl (0, 7), .inr (1, [(1, 26), (1, 27), (1, 28), (1, 29)]), .inl (0, 56), .inl (0, 56), .inl (0, 56), .inl (0, 10), .inr (1, [(1, 31), (1, 32), (1, 33), (1, 34)]), .inl (0, 56), .inl (0, 56), .inl (0, 56), .inl (0, 10), .inr (2, [(1, 36), (0, 0), (0, 0)]), .inl (0, 30), .inr (2, [(1, 38), (0, 0), (0, 0)]), .inl (0, 50), .inr (2, [(1, 40), (0, 0), (0, 0)]), .inl (0, 60), .inr (2, [(1, 42), (0, 0), (0, 0)]), .inl (0, 120), .inl (0, 10), .inr (5, [(1, 45), (1, 46), (0, 0), (0, 0), (0, 0)]), .inl (5, 24), .inl (0, 1024)] D' 47 s' ∧ True := by
  have st0 : ST D s 6 [.inr (9, [(2, 0), (2, 0), (2, 0), (2, 0), (2, 0), (2, 0), (2, 0), (2, 0), (2, 0), (2, 0), (2, 0), (0, 0), (0, 0)])] (upD D 6 (.inr (9, [(2, 0), (2, 0), (2, 0), (2, 0), (2, 0), (2, 0), (2, 0), (2, 0), (2, 0), (2, 0), (2, 0), (0, 0), (0, 0)]))) 7 (up1 s.1 6 (nuls (fun j => [true, true, true, true, true, true, true, true, true, true, true, false, false].getD j false)), s.2) := ST_new
  generalize upD D 6 (.inr (9, [(2, 0), (2, 0), (2, 0), (2, 0), (2, 0), (2, 0), (2, 0), (2, 0), (2, 0), (2, 0), (2, 0), (0, 0), (0, 0)])) = D1 at st0 ⊢
  generalize hs1 : ((up1 s.1 6 (nuls (fun j => [true, true, true, true, true, true, true, true, true, true, true, false, false].getD j false)), s.2) : mst) = s1 at st0 ⊢
  obtain ⟨A1, x1, e1, c1, t1⟩ := i_lay7 (h0 := h0) (B := B) (z := z + 13) (N := N) (D := D1) (s := s1) hN
  have st1 := ST_m (M' := [.inr (9, [(2, 0), (2, 0), (2, 0), (2, 0), (2, 0), (2, 0), (2, 0), (2, 0), (2, 0), (2, 0), (2, 0), (0, 0), (0, 0)]), .inr (1, [(1, 8), (1, 9), (1, 10), (1, 11)]), .inl (0, 56), .inl (0, 56), .inl (0, 56), .inl (0, 10)]) (ST_cat st0 c1) rfl rfl
  obtain ⟨A2, e2, st2⟩ := sa_n (h0 := h0) (B := B) (z := z + 195) (q := 7) (j := 0) (ty := .object "BuriedPairs$Layout") (M' := [.inr (9, [(1, 7), (2, 0), (2, 0), (2, 0), (2, 0), (2, 0), (2, 0), (2, 0), (2, 0), (2, 0), (2, 0), (0, 0), (0, 0)]), .inr (1, [(1, 8), (1, 9), (1, 10), (1, 11)]), .inl (0, 56), .inl (0, 56), .inl (0, 56), .inl (0, 10)]) st1 rfl (by decide) rfl rfl
  obtain ⟨A3, x3, e3, st3, k3, v3⟩ := sa_ar (h0 := h0) (B := B) (z := z + 195) (ty := .array .int) (v := 56) (m := 56) (j := 1) (t := 0) (M' := [.inr (9, [(1, 7), (1, 12), (2, 0), (2, 0), (2, 0), (2, 0), (2, 0), (2, 0), (2, 0), (2, 0), (2, 0), (0, 0), (0, 0)]), .inr (1, [(1, 8), (1, 9), (1, 10), (1, 11)]), .inl (0, 56), .inl (0, 56), .inl (0, 56), .inl (0, 10), .inl (0, 56)]) (hi' := 13) (z' := z + 251) st2 rfl (Or.inl rfl) rfl (by decide) (by decide) (fun _ => rfl) rfl rfl (by omega)
  obtain ⟨A4, x4, e4, st4, k4, v4⟩ := sa_ar (h0 := h0) (B := B) (z := z + 251) (ty := .array .int) (v := 56) (m := 56) (j := 2) (t := 0) (M' := [.inr (9, [(1, 7), (1, 12), (1, 13), (2, 0), (2, 0), (2, 0), (2, 0), (2, 0), (2, 0), (2, 0), (2, 0), (0, 0), (0, 0)]), .inr (1, [(1, 8), (1, 9), (1, 10), (1, 11)]), .inl (0, 56), .inl (0, 56), .inl (0, 56), .inl (0, 10), .inl (0, 56), .inl (0, 56)]) (hi' := 14) (z' := z + 307) st3 rfl (Or.inl rfl) rfl (by decide) (by decide) (fun _ => rfl) rfl rfl (by omega)
  obtain ⟨A5, x5, e5, st5, k5, v5⟩ := sa_ar (h0 := h0) (B := B) (z := z + 307) (ty := .array .int) (v := 56) (m := 56) (j := 3) (t := 0) (M' := [.inr (9, [(1, 7), (1, 12), (1, 13), (1, 14), (2, 0), (2, 0), (2, 0), (2, 0), (2, 0), (2, 0), (2, 0), (0, 0), (0, 0)]), .inr (1, [(1, 8), (1, 9), (1, 10), (1, 11)]), .inl (0, 56), .inl (0, 56), .inl (0, 56), .inl (0, 10), .inl (0, 56), .inl (0, 56), .inl (0, 56)]) (hi' := 15) (z' := z + 363) st4 rfl (Or.inl rfl) rfl (by decide) (by decide) (fun _ => rfl) rfl rfl (by omega)
  obtain ⟨A6, x6, e6, st6, k6, v6⟩ := sa_ar (h0 := h0) (B := B) (z := z + 363) (ty := .array .int) (v := 10) (m := 10) (j := 4) (t := 0) (M' := [.inr (9, [(1, 7), (1, 12), (1, 13), (1, 14), (1, 15), (2, 0), (2, 0), (2, 0), (2, 0), (2, 0), (2, 0), (0, 0), (0, 0)]), .inr (1, [(1, 8), (1, 9), (1, 10), (1, 11)]), .inl (0, 56), .inl (0, 56), .inl (0, 56), .inl (0, 10), .inl (0, 56), .inl (0, 56), .inl (0, 56), .inl (0, 10)]) (hi' := 16) (z' := z + 373) st5 rfl (Or.inl rfl) rfl (by decide) (by decide) (fun _ => rfl) rfl rfl (by omega)
  obtain ⟨A7, x7, e7, st7, k7, v7⟩ := sa_ar (h0 := h0) (B := B) (z := z + 373) (ty := .array .int) (v := 10) (m := 10) (j := 5) (t := 0) (M' := [.inr (9, [(1, 7), (1, 12), (1, 13), (1, 14), (1, 15), (1, 16), (2, 0), (2, 0), (2, 0), (2, 0), (2, 0), (0, 0), (0, 0)]), .inr (1, [(1, 8), (1, 9), (1, 10), (1, 11)]), .inl (0, 56), .inl (0, 56), .inl (0, 56), .inl (0, 10), .inl (0, 56), .inl (0, 56), .inl (0, 56), .inl (0, 10), .inl (0, 10)]) (hi' := 17) (z' := z + 383) st6 rfl (Or.inl rfl) rfl (by decide) (by decide) (fun _ => rfl) rfl rfl (by omega)
  obtain ⟨A8, x8, e8, st8, k8, v8⟩ := sa_ar (h0 := h0) (B := B) (z := z + 383) (ty := .array .int) (v := 10) (m := 10) (j := 6) (t := 0) (M' := [.inr (9, [(1, 7), (1, 12), (1, 13), (1, 14), (1, 15), (1, 16), (1, 17), (2, 0), (2, 0), (2, 0), (2, 0), (0, 0), (0, 0)]), .inr (1, [(1, 8), (1, 9), (1, 10), (1, 11)]), .inl (0, 56), .inl (0, 56), .inl (0, 56), .inl (0, 10), .inl (0, 56), .inl (0, 56), .inl (0, 56), .inl (0, 10), .inl (0, 10), .inl (0, 10)]) (hi' := 18) (z' := z + 393) st7 rfl (Or.inl rfl) rfl (by decide) (by decide) (fun _ => rfl) rfl rfl (by omega)
  obtain ⟨A9, x9, e9, st9, k9, v9⟩ := sa_ar (h0 := h0) (B := B) (z := z + 393) (ty := .array .int) (v := 10) (m := 10) (j := 7) (t := 0) (M' := [.inr (9, [(1, 7), (1, 12), (1, 13), (1, 14), (1, 15), (1, 16), (1, 17), (1, 18), (2, 0), (2, 0), (2, 0), (0, 0), (0, 0)]), .inr (1, [(1, 8), (1, 9), (1, 10), (1, 11)]), .inl (0, 56), .inl (0, 56), .inl (0, 56), .inl (0, 10), .inl (0, 56), .inl (0, 56), .inl (0, 56), .inl (0, 10), .inl (0, 10), .inl (0, 10), .inl (0, 10)]) (hi' := 19) (z' := z + 403) st8 rfl (Or.inl rfl) rfl (by decide) (by decide) (fun _ => rfl) rfl rfl (by omega)
  obtain ⟨A10, x10, e10, st10, k10, v10⟩ := sa_ar (h0 := h0) (B := B) (z := z + 403) (ty := .array .int) (v := 10) (m := 10) (j := 8) (t := 0) (M' := [.inr (9, [(1, 7), (1, 12), (1, 13), (1, 14), (1, 15), (1, 16), (1, 17), (1, 18), (1, 19), (2, 0), (2, 0), (0, 0), (0, 0)]), .inr (1, [(1, 8), (1, 9), (1, 10), (1, 11)]), .inl (0, 56), .inl (0, 56), .inl (0, 56), .inl (0, 10), .inl (0, 56), .inl (0, 56), .inl (0, 56), .inl (0, 10), .inl (0, 10), .inl (0, 10), .inl (0, 10), .inl (0, 10)]) (hi' := 20) (z' := z + 413) st9 rfl (Or.inl rfl) rfl (by decide) (by decide) (fun _ => rfl) rfl rfl (by omega)
  obtain ⟨A11, x11, e11, c11, t11⟩ := i_plan20 (h0 := h0) (B := B) (z := z + 413) (N := N) (D := A10) (s := x10) hN
  have st11 := ST_m (M' := [.inr (9, [(1, 7), (1, 12), (1, 13), (1, 14), (1, 15), (1, 16), (1, 17), (1, 18), (1, 19), (2, 0), (2, 0), (0, 0), (0, 0)]), .inr (1, [(1, 8), (1, 9), (1, 10), (1, 11)]), .inl (0, 56), .inl (0, 56), .inl (0, 56), .inl (0, 10), .inl (0, 56), .inl (0, 56), .inl (0, 56), .inl (0, 10), .inl (0, 10), .inl (0, 10), .inl (0, 10), .inl (0, 10), .inr (4, [(0, 0), (1, 21), (1, 23), (1, 24), (1, 25), (1, 30), (1, 35), (1, 37), (1, 39), (1, 41), (1, 43), (1, 44)]), .inr (2, [(1, 22), (0, 0), (0, 0)]), .inl (0, 35), .inl (0, 8), .inl (0, 7), .inr (1, [(1, 26), (1, 27), (1, 28), (1, 29)]), .inl (0, 56), .inl (0, 56), .inl (0, 56), .inl (0, 10), .inr (1, [(1, 31), (1, 32), (1, 33), (1, 34)]), .inl (0, 56), .inl (0, 56), .inl (0, 56), .inl (0, 10), .inr (2, [(1, 36), (0, 0), (0, 0)]), .inl (0, 30), .inr (2, [(1, 38), (0, 0), (0, 0)]), .inl (0, 50), .inr (2, [(1, 40), (0, 0), (0, 0)]), .inl (0, 60), .inr (2, [(1, 42), (0, 0), (0, 0)]), .inl (0, 120), .inl (0, 10), .inr (5, [(1, 45), (1, 46), (0, 0), (0, 0), (0, 0)]), .inl (5, 24), .inl (0, 1024)]) (ST_cat st10 c11) rfl rfl
  obtain ⟨x12, e12, st12, k12, v12⟩ := sa_d (h0 := h0) (B := B) (z := z + 2177) (q := 20) (j := 9) (w := 0) (C := "BuriedPairs$Plan") st11 rfl rfl (by decide)
  have rr : oR (mkM h0 B A11 47 (z + 2177) x12) (B + 6) 9 0 = some (some (B + 7)) := oR_mk (ST_D st12 rfl).2 (ST_D st12 rfl).1 rfl
  obtain ⟨x13, e13, st13, k13, v13⟩ := sa_d (h0 := h0) (B := B) (z := z + 2177) (q := 7) (j := 10) (w := 0) (C := "BuriedPairs$Layout") st12 rfl rfl (by decide)
  obtain ⟨x14, e14, st14, k14, v14⟩ := sa_i (h0 := h0) (B := B) (z := z + 2177) (v := 0) (j := 11) (w := 0) st13 rfl rfl
  obtain ⟨x15, e15, st15, k15, v15⟩ := sa_i (h0 := h0) (B := B) (z := z + 2177) (v := 0) (j := 12) (w := 0) st14 rfl rfl
  refine ⟨A11, x15, ?_, st15, ?_⟩
  · unfold F_Wires_init
    rw [rcv_st st0 rfl, if_pos rfl, my_st st0 rfl, if_pos rfl]
    rw [al_mk o_lay, Option.bind_some]
    dsimp only
    rw [e1, Option.bind_some]
    rw [e2, Option.bind_some]
    refine (e3 _).trans ?_
    refine (e4 _).trans ?_
    refine (e5 _).trans ?_
    refine (e6 _).trans ?_
    refine (e7 _).trans ?_
    refine (e8 _).trans ?_
    refine (e9 _).trans ?_
    refine (e10 _).trans ?_
    rw [al_mk o_pla, Option.bind_some]
    dsimp only
    rw [e11, Option.bind_some]
    rw [e12, Option.bind_some]
    rw [rr, Option.bind_some]
    dsimp only
    rw [e13, Option.bind_some]
    rw [e14, Option.bind_some]
    rw [e15, Option.bind_some]
  · trivial
theorem o_ben {y : Nat → Int64} : (Sum.inr (0, [.null, .null, .null, .null, .int 0, .int 0]) : pm_C) = tC B (.inr (0, [(2, 0), (2, 0), (2, 0), (2, 0), (0, 0), (0, 0)])) (nuls (fun j => [true, true, true, true, false, false].getD j false)) y := o_gen (bs := [true, true, true, true, false, false])
theorem i_Bench (hN : 1000 ≤ N) : ∃ D' s', F_Bench_init N (mkM h0 B (upD D 5 (.inr (0, [(2, 0), (2, 0), (2, 0), (2, 0), (0, 0), (0, 0)]))) 6 (z + 6) (up1 s.1 5 (nuls (fun j => [true, true, true, true, false, false].getD j false)), s.2)) (B + 5) = some (mkM h0 B D' 54 (z + 5660) s') ∧ ST D s 5 [.inr (0, [(1, 6), (1, 47), (1, 52), (1, 53), (0, 0), (0, 0)]), .inr (9, [(1, 7), (1, 12), (1, 13), (1, 14), (1, 15), (1, 16), (1, 17), (1, 18), (1, 19), (2, 0), (2, 0), (0, 0), (0, 0)]), .inr (1, [(1, 8), (1, 9), (1, 10), (1, 11)]), .inl (0, 56), .inl (0, 56), .inl (0, 56), .inl (0, 10), .inl (0, 56), .inl (0, 56), .inl (0, 56), .inl (0, 10), .inl (0, 10), .inl (0, 10), .inl (0, 10), .inl (0, 10), .inr (4, [(0, 0), (1, 21), (1, 23), (1, 24), (1, 25), (1, 30), (1, 35), (1, 37), (1, 39), (1, 41), (1, 43), (1, 44)]), .inr (2, [(1, 22), (0, 0), (0, 0)]), .inl (0, 35), .inl (0, 8), .inl (0, 7), .inr (1, [(1, 26), (1, 27), (1, 28), (1, 29)]), .inl (0, 56), .inl (0, 56), .inl (0, 56), .inl (0, 10), .inr (1, [(1, 31), (1, 32), (1, 33), (1, 34)]), .inl (0, 56), .inl (0, 56), .inl (0, 56), .inl (0, 10), .inr (2, [(1, 36), (0, 0), (0, 0)]), .inl (0, 30), .inr (2, [(1, 38), (0, 0), (0, 0)]), .inl (0, 50), .inr (2, [(1, 40), (0, 0), (0, 0)]), .inl (0, 60), .inr (2, [(1, 42), (0, 0), (0, 0)]), .inl (0, 120), .inl (0, 10), .inr (5, [(1, 45), (1, 46), (0, 0), (0, 0), (0, 0)]), .inl (5, 24), .inl (0, 1024), .inr (8, [(1, 48), (1, 49), (1, 50), (1, 51), (0, 0)]), .inl (0, 56), .inl (0, 616), .inl (0, 7), .inl (0, 7), .inl (1, 10), .inl (0, 2776)] D' 54 s' ∧ ∀ i, s'.1 53 i = 0 := by
  have st0 : ST D s 5 [.inr (0, [(2, 0), (2, 0), (2, 0), (2, 0), (0, 0), (0, 0)])] (upD D 5 (.inr (0, [(2, 0), (2, 0), (2, 0), (2, 0), (0, 0), (0, 0)]))) 6 (up1 s.1 5 (nuls (fun j => [true, true, true, true, false, false].getD j false)), s.2) := ST_new
  generalize upD D 5 (.inr (0, [(2, 0), (2, 0), (2, 0), (2, 0), (0, 0), (0, 0)])) = D1 at st0 ⊢
  generalize hs1 : ((up1 s.1 5 (nuls (fun j => [true, true, true, true, false, false].getD j false)), s.2) : mst) = s1 at st0 ⊢
  obtain ⟨A1, x1, e1, c1, t1⟩ := i_Wires (h0 := h0) (B := B) (z := z + 6) (N := N) (D := D1) (s := s1) hN
  have st1 := ST_m (M' := [.inr (0, [(2, 0), (2, 0), (2, 0), (2, 0), (0, 0), (0, 0)]), .inr (9, [(1, 7), (1, 12), (1, 13), (1, 14), (1, 15), (1, 16), (1, 17), (1, 18), (1, 19), (2, 0), (2, 0), (0, 0), (0, 0)]), .inr (1, [(1, 8), (1, 9), (1, 10), (1, 11)]), .inl (0, 56), .inl (0, 56), .inl (0, 56), .inl (0, 10), .inl (0, 56), .inl (0, 56), .inl (0, 56), .inl (0, 10), .inl (0, 10), .inl (0, 10), .inl (0, 10), .inl (0, 10), .inr (4, [(0, 0), (1, 21), (1, 23), (1, 24), (1, 25), (1, 30), (1, 35), (1, 37), (1, 39), (1, 41), (1, 43), (1, 44)]), .inr (2, [(1, 22), (0, 0), (0, 0)]), .inl (0, 35), .inl (0, 8), .inl (0, 7), .inr (1, [(1, 26), (1, 27), (1, 28), (1, 29)]), .inl (0, 56), .inl (0, 56), .inl (0, 56), .inl (0, 10), .inr (1, [(1, 31), (1, 32), (1, 33), (1, 34)]), .inl (0, 56), .inl (0, 56), .inl (0, 56), .inl (0, 10), .inr (2, [(1, 36), (0, 0), (0, 0)]), .inl (0, 30), .inr (2, [(1, 38), (0, 0), (0, 0)]), .inl (0, 50), .inr (2, [(1, 40), (0, 0), (0, 0)]), .inl (0, 60), .inr (2, [(1, 42), (0, 0), (0, 0)]), .inl (0, 120), .inl (0, 10), .inr (5, [(1, 45), (1, 46), (0, 0), (0, 0), (0, 0)]), .inl (5, 24), .inl (0, 1024)]) (ST_cat st0 c1) rfl rfl
  obtain ⟨A2, e2, st2⟩ := sa_n (h0 := h0) (B := B) (z := z + 2183) (q := 6) (j := 0) (ty := .object "BuriedPairs$Wires") (M' := [.inr (0, [(1, 6), (2, 0), (2, 0), (2, 0), (0, 0), (0, 0)]), .inr (9, [(1, 7), (1, 12), (1, 13), (1, 14), (1, 15), (1, 16), (1, 17), (1, 18), (1, 19), (2, 0), (2, 0), (0, 0), (0, 0)]), .inr (1, [(1, 8), (1, 9), (1, 10), (1, 11)]), .inl (0, 56), .inl (0, 56), .inl (0, 56), .inl (0, 10), .inl (0, 56), .inl (0, 56), .inl (0, 56), .inl (0, 10), .inl (0, 10), .inl (0, 10), .inl (0, 10), .inl (0, 10), .inr (4, [(0, 0), (1, 21), (1, 23), (1, 24), (1, 25), (1, 30), (1, 35), (1, 37), (1, 39), (1, 41), (1, 43), (1, 44)]), .inr (2, [(1, 22), (0, 0), (0, 0)]), .inl (0, 35), .inl (0, 8), .inl (0, 7), .inr (1, [(1, 26), (1, 27), (1, 28), (1, 29)]), .inl (0, 56), .inl (0, 56), .inl (0, 56), .inl (0, 10), .inr (1, [(1, 31), (1, 32), (1, 33), (1, 34)]), .inl (0, 56), .inl (0, 56), .inl (0, 56), .inl (0, 10), .inr (2, [(1, 36), (0, 0), (0, 0)]), .inl (0, 30), .inr (2, [(1, 38), (0, 0), (0, 0)]), .inl (0, 50), .inr (2, [(1, 40), (0, 0), (0, 0)]), .inl (0, 60), .inr (2, [(1, 42), (0, 0), (0, 0)]), .inl (0, 120), .inl (0, 10), .inr (5, [(1, 45), (1, 46), (0, 0), (0, 0), (0, 0)]), .inl (5, 24), .inl (0, 1024)]) st1 rfl (by decide) rfl rfl
  obtain ⟨A3, x3, e3, c3, t3⟩ := i_Tone (h0 := h0) (B := B) (z := z + 2183) (N := N) (D := A2) (s := x1)
  have st3 := ST_m (M' := [.inr (0, [(1, 6), (2, 0), (2, 0), (2, 0), (0, 0), (0, 0)]), .inr (9, [(1, 7), (1, 12), (1, 13), (1, 14), (1, 15), (1, 16), (1, 17), (1, 18), (1, 19), (2, 0), (2, 0), (0, 0), (0, 0)]), .inr (1, [(1, 8), (1, 9), (1, 10), (1, 11)]), .inl (0, 56), .inl (0, 56), .inl (0, 56), .inl (0, 10), .inl (0, 56), .inl (0, 56), .inl (0, 56), .inl (0, 10), .inl (0, 10), .inl (0, 10), .inl (0, 10), .inl (0, 10), .inr (4, [(0, 0), (1, 21), (1, 23), (1, 24), (1, 25), (1, 30), (1, 35), (1, 37), (1, 39), (1, 41), (1, 43), (1, 44)]), .inr (2, [(1, 22), (0, 0), (0, 0)]), .inl (0, 35), .inl (0, 8), .inl (0, 7), .inr (1, [(1, 26), (1, 27), (1, 28), (1, 29)]), .inl (0, 56), .inl (0, 56), .inl (0, 56), .inl (0, 10), .inr (1, [(1, 31), (1, 32), (1, 33), (1, 34)]), .inl (0, 56), .inl (0, 56), .inl (0, 56), .inl (0, 10), .inr (2, [(1, 36), (0, 0), (0, 0)]), .inl (0, 30), .inr (2, [(1, 38), (0, 0), (0, 0)]), .inl (0, 50), .inr (2, [(1, 40), (0, 0), (0, 0)]), .inl (0, 60), .inr (2, [(1, 42), (0, 0), (0, 0)]), .inl (0, 120), .inl (0, 10), .inr (5, [(1, 45), (1, 46), (0, 0), (0, 0), (0, 0)]), .inl (5, 24), .inl (0, 1024), .inr (8, [(1, 48), (1, 49), (1, 50), (1, 51), (0, 0)]), .inl (0, 56), .inl (0, 616), .inl (0, 7), .inl (0, 7)]) (ST_cat st2 c3) rfl rfl
  obtain ⟨A4, e4, st4⟩ := sa_n (h0 := h0) (B := B) (z := z + 2874) (q := 47) (j := 1) (ty := .object "BuriedPairs$Tone") (M' := [.inr (0, [(1, 6), (1, 47), (2, 0), (2, 0), (0, 0), (0, 0)]), .inr (9, [(1, 7), (1, 12), (1, 13), (1, 14), (1, 15), (1, 16), (1, 17), (1, 18), (1, 19), (2, 0), (2, 0), (0, 0), (0, 0)]), .inr (1, [(1, 8), (1, 9), (1, 10), (1, 11)]), .inl (0, 56), .inl (0, 56), .inl (0, 56), .inl (0, 10), .inl (0, 56), .inl (0, 56), .inl (0, 56), .inl (0, 10), .inl (0, 10), .inl (0, 10), .inl (0, 10), .inl (0, 10), .inr (4, [(0, 0), (1, 21), (1, 23), (1, 24), (1, 25), (1, 30), (1, 35), (1, 37), (1, 39), (1, 41), (1, 43), (1, 44)]), .inr (2, [(1, 22), (0, 0), (0, 0)]), .inl (0, 35), .inl (0, 8), .inl (0, 7), .inr (1, [(1, 26), (1, 27), (1, 28), (1, 29)]), .inl (0, 56), .inl (0, 56), .inl (0, 56), .inl (0, 10), .inr (1, [(1, 31), (1, 32), (1, 33), (1, 34)]), .inl (0, 56), .inl (0, 56), .inl (0, 56), .inl (0, 10), .inr (2, [(1, 36), (0, 0), (0, 0)]), .inl (0, 30), .inr (2, [(1, 38), (0, 0), (0, 0)]), .inl (0, 50), .inr (2, [(1, 40), (0, 0), (0, 0)]), .inl (0, 60), .inr (2, [(1, 42), (0, 0), (0, 0)]), .inl (0, 120), .inl (0, 10), .inr (5, [(1, 45), (1, 46), (0, 0), (0, 0), (0, 0)]), .inl (5, 24), .inl (0, 1024), .inr (8, [(1, 48), (1, 49), (1, 50), (1, 51), (0, 0)]), .inl (0, 56), .inl (0, 616), .inl (0, 7), .inl (0, 7)]) st3 rfl (by decide) rfl rfl
  obtain ⟨A5, x5, e5, st5, k5⟩ := sa_lg (h0 := h0) (B := B) (z := z + 2874) (ty := .array .long) (v := 10) (m := 10) (j := 2) (M' := [.inr (0, [(1, 6), (1, 47), (1, 52), (2, 0), (0, 0), (0, 0)]), .inr (9, [(1, 7), (1, 12), (1, 13), (1, 14), (1, 15), (1, 16), (1, 17), (1, 18), (1, 19), (2, 0), (2, 0), (0, 0), (0, 0)]), .inr (1, [(1, 8), (1, 9), (1, 10), (1, 11)]), .inl (0, 56), .inl (0, 56), .inl (0, 56), .inl (0, 10), .inl (0, 56), .inl (0, 56), .inl (0, 56), .inl (0, 10), .inl (0, 10), .inl (0, 10), .inl (0, 10), .inl (0, 10), .inr (4, [(0, 0), (1, 21), (1, 23), (1, 24), (1, 25), (1, 30), (1, 35), (1, 37), (1, 39), (1, 41), (1, 43), (1, 44)]), .inr (2, [(1, 22), (0, 0), (0, 0)]), .inl (0, 35), .inl (0, 8), .inl (0, 7), .inr (1, [(1, 26), (1, 27), (1, 28), (1, 29)]), .inl (0, 56), .inl (0, 56), .inl (0, 56), .inl (0, 10), .inr (1, [(1, 31), (1, 32), (1, 33), (1, 34)]), .inl (0, 56), .inl (0, 56), .inl (0, 56), .inl (0, 10), .inr (2, [(1, 36), (0, 0), (0, 0)]), .inl (0, 30), .inr (2, [(1, 38), (0, 0), (0, 0)]), .inl (0, 50), .inr (2, [(1, 40), (0, 0), (0, 0)]), .inl (0, 60), .inr (2, [(1, 42), (0, 0), (0, 0)]), .inl (0, 120), .inl (0, 10), .inr (5, [(1, 45), (1, 46), (0, 0), (0, 0), (0, 0)]), .inl (5, 24), .inl (0, 1024), .inr (8, [(1, 48), (1, 49), (1, 50), (1, 51), (0, 0)]), .inl (0, 56), .inl (0, 616), .inl (0, 7), .inl (0, 7), .inl (1, 10)]) (hi' := 53) (z' := z + 2884) st4 rfl rfl (by decide) (by decide) (fun _ => rfl) rfl rfl (by omega)
  obtain ⟨A6, x6, e6, st6, k6, v6⟩ := sa_ar (h0 := h0) (B := B) (z := z + 2884) (ty := .array .int) (v := 2776) (m := 2776) (j := 3) (t := 0) (M' := [.inr (0, [(1, 6), (1, 47), (1, 52), (1, 53), (0, 0), (0, 0)]), .inr (9, [(1, 7), (1, 12), (1, 13), (1, 14), (1, 15), (1, 16), (1, 17), (1, 18), (1, 19), (2, 0), (2, 0), (0, 0), (0, 0)]), .inr (1, [(1, 8), (1, 9), (1, 10), (1, 11)]), .inl (0, 56), .inl (0, 56), .inl (0, 56), .inl (0, 10), .inl (0, 56), .inl (0, 56), .inl (0, 56), .inl (0, 10), .inl (0, 10), .inl (0, 10), .inl (0, 10), .inl (0, 10), .inr (4, [(0, 0), (1, 21), (1, 23), (1, 24), (1, 25), (1, 30), (1, 35), (1, 37), (1, 39), (1, 41), (1, 43), (1, 44)]), .inr (2, [(1, 22), (0, 0), (0, 0)]), .inl (0, 35), .inl (0, 8), .inl (0, 7), .inr (1, [(1, 26), (1, 27), (1, 28), (1, 29)]), .inl (0, 56), .inl (0, 56), .inl (0, 56), .inl (0, 10), .inr (1, [(1, 31), (1, 32), (1, 33), (1, 34)]), .inl (0, 56), .inl (0, 56), .inl (0, 56), .inl (0, 10), .inr (2, [(1, 36), (0, 0), (0, 0)]), .inl (0, 30), .inr (2, [(1, 38), (0, 0), (0, 0)]), .inl (0, 50), .inr (2, [(1, 40), (0, 0), (0, 0)]), .inl (0, 60), .inr (2, [(1, 42), (0, 0), (0, 0)]), .inl (0, 120), .inl (0, 10), .inr (5, [(1, 45), (1, 46), (0, 0), (0, 0), (0, 0)]), .inl (5, 24), .inl (0, 1024), .inr (8, [(1, 48), (1, 49), (1, 50), (1, 51), (0, 0)]), .inl (0, 56), .inl (0, 616), .inl (0, 7), .inl (0, 7), .inl (1, 10), .inl (0, 2776)]) (hi' := 54) (z' := z + 5660) st5 rfl (Or.inl rfl) rfl (by decide) (by decide) (fun _ => rfl) rfl rfl (by omega)
  obtain ⟨x7, e7, st7, k7, v7⟩ := sa_i (h0 := h0) (B := B) (z := z + 5660) (v := 0) (j := 4) (w := 0) st6 rfl rfl
  obtain ⟨x8, e8, st8, k8, v8⟩ := sa_i (h0 := h0) (B := B) (z := z + 5660) (v := 0) (j := 5) (w := 0) st7 rfl rfl
  refine ⟨A6, x8, ?_, st8, ?_⟩
  · unfold F_Bench_init
    rw [rcv_st st0 rfl, if_pos rfl, my_st st0 rfl, if_pos rfl]
    rw [al_mk o_wir, Option.bind_some]
    dsimp only
    rw [e1, Option.bind_some]
    rw [e2, Option.bind_some]
    rw [al_mk o_tone, Option.bind_some]
    dsimp only
    rw [e3, Option.bind_some]
    rw [e4, Option.bind_some]
    refine (e5 _).trans ?_
    refine (e6 _).trans ?_
    rw [e7, Option.bind_some]
    rw [e8, Option.bind_some]
  · intro i
    rw [k8 53 (by decide), k7 53 (by decide)]
    exact v6 i
theorem o_bp {y : Nat → Int64} : (Sum.inr (10, [.null, .null, .null, .null, .null, .null, .int 0]) : pm_C) = tC B (.inr (10, [(2, 0), (2, 0), (2, 0), (2, 0), (2, 0), (2, 0), (0, 0)])) (nuls (fun j => [true, true, true, true, true, true, false].getD j false)) y := o_gen (bs := [true, true, true, true, true, true, false])
theorem i_BP (hN : 1000 ≤ N) : ∃ D' s', F_BP_init N (mkM h0 B (upD D 0 (.inr (10, [(2, 0), (2, 0), (2, 0), (2, 0), (2, 0), (2, 0), (0, 0)]))) 1 (z + 7) (up1 s.1 0 (nuls (fun j => [true, true, true, true, true, true, false].getD j false)), s.2)) (B + 0) = some (mkM h0 B D' 85 (z + 7788) s') ∧ ST D s 0 [.inr (10, [(1, 1), (1, 3), (1, 4), (1, 5), (1, 54), (2, 0), (0, 0)]), .inr (6, [(1, 2), (0, 0)]), .inl (0, 300), .inr (7, [(1, 1), (0, 0), (0, 0)]), .inl (4, 6), .inr (0, [(1, 6), (1, 47), (1, 52), (1, 53), (0, 0), (0, 0)]), .inr (9, [(1, 7), (1, 12), (1, 13), (1, 14), (1, 15), (1, 16), (1, 17), (1, 18), (1, 19), (2, 0), (2, 0), (0, 0), (0, 0)]), .inr (1, [(1, 8), (1, 9), (1, 10), (1, 11)]), .inl (0, 56), .inl (0, 56), .inl (0, 56), .inl (0, 10), .inl (0, 56), .inl (0, 56), .inl (0, 56), .inl (0, 10), .inl (0, 10), .inl (0, 10), .inl (0, 10), .inl (0, 10), .inr (4, [(0, 0), (1, 21), (1, 23), (1, 24), (1, 25), (1, 30), (1, 35), (1, 37), (1, 39), (1, 41), (1, 43), (1, 44)]), .inr (2, [(1, 22), (0, 0), (0, 0)]), .inl (0, 35), .inl (0, 8), .inl (0, 7), .inr (1, [(1, 26), (1, 27), (1, 28), (1, 29)]), .inl (0, 56), .inl (0, 56), .inl (0, 56), .inl (0, 10), .inr (1, [(1, 31), (1, 32), (1, 33), (1, 34)]), .inl (0, 56), .inl (0, 56), .inl (0, 56), .inl (0, 10), .inr (2, [(1, 36), (0, 0), (0, 0)]), .inl (0, 30), .inr (2, [(1, 38), (0, 0), (0, 0)]), .inl (0, 50), .inr (2, [(1, 40), (0, 0), (0, 0)]), .inl (0, 60), .inr (2, [(1, 42), (0, 0), (0, 0)]), .inl (0, 120), .inl (0, 10), .inr (5, [(1, 45), (1, 46), (0, 0), (0, 0), (0, 0)]), .inl (5, 24), .inl (0, 1024), .inr (8, [(1, 48), (1, 49), (1, 50), (1, 51), (0, 0)]), .inl (0, 56), .inl (0, 616), .inl (0, 7), .inl (0, 7), .inl (1, 10), .inl (0, 2776), .inr (3, [(1, 55), (1, 56), (1, 57), (0, 0), (0, 0), (0, 0)]), .inl (0, 10), .inl (0, 10), .inl (0, 20), .inr (4, [(0, 0), (1, 59), (1, 61), (1, 62), (1, 63), (1, 68), (1, 73), (1, 75), (1, 77), (1, 79), (1, 81), (1, 82)]), .inr (2, [(1, 60), (0, 0), (0, 0)]), .inl (0, 35), .inl (0, 8), .inl (0, 7), .inr (1, [(1, 64), (1, 65), (1, 66), (1, 67)]), .inl (0, 56), .inl (0, 56), .inl (0, 56), .inl (0, 10), .inr (1, [(1, 69), (1, 70), (1, 71), (1, 72)]), .inl (0, 56), .inl (0, 56), .inl (0, 56), .inl (0, 10), .inr (2, [(1, 74), (0, 0), (0, 0)]), .inl (0, 30), .inr (2, [(1, 76), (0, 0), (0, 0)]), .inl (0, 50), .inr (2, [(1, 78), (0, 0), (0, 0)]), .inl (0, 60), .inr (2, [(1, 80), (0, 0), (0, 0)]), .inl (0, 120), .inl (0, 10), .inr (5, [(1, 83), (1, 84), (0, 0), (0, 0), (0, 0)]), .inl (5, 24), .inl (0, 1024)] D' 85 s' ∧ s'.1 0 5 = nI 58 ∧ s'.1 0 6 = 0 ∧ s'.1 1 1 = 0 ∧ (∀ i, s'.1 53 i = 0) ∧ DRs s' 58 := by
  have st0 : ST D s 0 [.inr (10, [(2, 0), (2, 0), (2, 0), (2, 0), (2, 0), (2, 0), (0, 0)])] (upD D 0 (.inr (10, [(2, 0), (2, 0), (2, 0), (2, 0), (2, 0), (2, 0), (0, 0)]))) 1 (up1 s.1 0 (nuls (fun j => [true, true, true, true, true, true, false].getD j false)), s.2) := ST_new
  generalize upD D 0 (.inr (10, [(2, 0), (2, 0), (2, 0), (2, 0), (2, 0), (2, 0), (0, 0)])) = D1 at st0 ⊢
  generalize hs1 : ((up1 s.1 0 (nuls (fun j => [true, true, true, true, true, true, false].getD j false)), s.2) : mst) = s1 at st0 ⊢
  obtain ⟨A1, x1, e1, c1, t1⟩ := i_Tape (h0 := h0) (B := B) (z := z + 7) (N := N) (D := D1) (s := s1)
  have st1 := ST_m (M' := [.inr (10, [(2, 0), (2, 0), (2, 0), (2, 0), (2, 0), (2, 0), (0, 0)]), .inr (6, [(1, 2), (0, 0)]), .inl (0, 300)]) (ST_cat st0 c1) rfl rfl
  obtain ⟨A2, e2, st2⟩ := sa_n (h0 := h0) (B := B) (z := z + 309) (q := 1) (j := 0) (ty := .object "BuriedPairs$Tape") (M' := [.inr (10, [(1, 1), (2, 0), (2, 0), (2, 0), (2, 0), (2, 0), (0, 0)]), .inr (6, [(1, 2), (0, 0)]), .inl (0, 300)]) st1 rfl (by decide) rfl rfl
  obtain ⟨A3, x3, e3, c3, t3⟩ := i_Reader (h0 := h0) (B := B) (z := z + 309) (N := N) (D := A2) (s := x1)
  have st3 := ST_m (M' := [.inr (10, [(1, 1), (2, 0), (2, 0), (2, 0), (2, 0), (2, 0), (0, 0)]), .inr (6, [(1, 2), (0, 0)]), .inl (0, 300), .inr (7, [(1, 1), (0, 0), (0, 0)])]) (ST_cat st2 c3) rfl rfl
  have hn0 : upD A2 3 (.inr (7, [(2, 0), (0, 0), (0, 0)])) 0 = A2 0 := upD_n (by decide)
  have rr : oR (mkM h0 B (upD A2 3 (.inr (7, [(2, 0), (0, 0), (0, 0)]))) 4 (z + 309 + 3) (up1 x1.1 3 (nuls (fun j => [true, false, false].getD j false)), x1.2)) (B + 0) 10 0 = some (some (B + 1)) := oR_mk (by decide) (hn0.trans (ST_D st2 rfl).1) rfl
  obtain ⟨A4, e4, st4⟩ := sa_n (h0 := h0) (B := B) (z := z + 312) (q := 3) (j := 1) (ty := .object "BuriedPairs$TextReader") (M' := [.inr (10, [(1, 1), (1, 3), (2, 0), (2, 0), (2, 0), (2, 0), (0, 0)]), .inr (6, [(1, 2), (0, 0)]), .inl (0, 300), .inr (7, [(1, 1), (0, 0), (0, 0)])]) st3 rfl (by decide) rfl rfl
  obtain ⟨A5, x5, e5, st5, k5⟩ := sa_aq (h0 := h0) (B := B) (z := z + 312) (ty := .array (.object "BuriedPairs$Plan")) (v := 6) (m := 6) (j := 2) (t := 4) (M' := [.inr (10, [(1, 1), (1, 3), (1, 4), (2, 0), (2, 0), (2, 0), (0, 0)]), .inr (6, [(1, 2), (0, 0)]), .inl (0, 300), .inr (7, [(1, 1), (0, 0), (0, 0)]), .inl (4, 6)]) (hi' := 5) (z' := z + 318) st4 rfl (Or.inl rfl) rfl (by decide) (by decide) (fun _ => rfl) rfl rfl (by omega)
  obtain ⟨A6, x6, e6, c6, t6⟩ := i_Bench (h0 := h0) (B := B) (z := z + 318) (N := N) (D := A5) (s := x5) hN
  have st6 := ST_m (M' := [.inr (10, [(1, 1), (1, 3), (1, 4), (2, 0), (2, 0), (2, 0), (0, 0)]), .inr (6, [(1, 2), (0, 0)]), .inl (0, 300), .inr (7, [(1, 1), (0, 0), (0, 0)]), .inl (4, 6), .inr (0, [(1, 6), (1, 47), (1, 52), (1, 53), (0, 0), (0, 0)]), .inr (9, [(1, 7), (1, 12), (1, 13), (1, 14), (1, 15), (1, 16), (1, 17), (1, 18), (1, 19), (2, 0), (2, 0), (0, 0), (0, 0)]), .inr (1, [(1, 8), (1, 9), (1, 10), (1, 11)]), .inl (0, 56), .inl (0, 56), .inl (0, 56), .inl (0, 10), .inl (0, 56), .inl (0, 56), .inl (0, 56), .inl (0, 10), .inl (0, 10), .inl (0, 10), .inl (0, 10), .inl (0, 10), .inr (4, [(0, 0), (1, 21), (1, 23), (1, 24), (1, 25), (1, 30), (1, 35), (1, 37), (1, 39), (1, 41), (1, 43), (1, 44)]), .inr (2, [(1, 22), (0, 0), (0, 0)]), .inl (0, 35), .inl (0, 8), .inl (0, 7), .inr (1, [(1, 26), (1, 27), (1, 28), (1, 29)]), .inl (0, 56), .inl (0, 56), .inl (0, 56), .inl (0, 10), .inr (1, [(1, 31), (1, 32), (1, 33), (1, 34)]), .inl (0, 56), .inl (0, 56), .inl (0, 56), .inl (0, 10), .inr (2, [(1, 36), (0, 0), (0, 0)]), .inl (0, 30), .inr (2, [(1, 38), (0, 0), (0, 0)]), .inl (0, 50), .inr (2, [(1, 40), (0, 0), (0, 0)]), .inl (0, 60), .inr (2, [(1, 42), (0, 0), (0, 0)]), .inl (0, 120), .inl (0, 10), .inr (5, [(1, 45), (1, 46), (0, 0), (0, 0), (0, 0)]), .inl (5, 24), .inl (0, 1024), .inr (8, [(1, 48), (1, 49), (1, 50), (1, 51), (0, 0)]), .inl (0, 56), .inl (0, 616), .inl (0, 7), .inl (0, 7), .inl (1, 10), .inl (0, 2776)]) (ST_cat st5 c6) rfl rfl
  obtain ⟨A7, e7, st7⟩ := sa_n (h0 := h0) (B := B) (z := z + 5978) (q := 5) (j := 3) (ty := .object "BuriedPairs$Bench") (M' := [.inr (10, [(1, 1), (1, 3), (1, 4), (1, 5), (2, 0), (2, 0), (0, 0)]), .inr (6, [(1, 2), (0, 0)]), .inl (0, 300), .inr (7, [(1, 1), (0, 0), (0, 0)]), .inl (4, 6), .inr (0, [(1, 6), (1, 47), (1, 52), (1, 53), (0, 0), (0, 0)]), .inr (9, [(1, 7), (1, 12), (1, 13), (1, 14), (1, 15), (1, 16), (1, 17), (1, 18), (1, 19), (2, 0), (2, 0), (0, 0), (0, 0)]), .inr (1, [(1, 8), (1, 9), (1, 10), (1, 11)]), .inl (0, 56), .inl (0, 56), .inl (0, 56), .inl (0, 10), .inl (0, 56), .inl (0, 56), .inl (0, 56), .inl (0, 10), .inl (0, 10), .inl (0, 10), .inl (0, 10), .inl (0, 10), .inr (4, [(0, 0), (1, 21), (1, 23), (1, 24), (1, 25), (1, 30), (1, 35), (1, 37), (1, 39), (1, 41), (1, 43), (1, 44)]), .inr (2, [(1, 22), (0, 0), (0, 0)]), .inl (0, 35), .inl (0, 8), .inl (0, 7), .inr (1, [(1, 26), (1, 27), (1, 28), (1, 29)]), .inl (0, 56), .inl (0, 56), .inl (0, 56), .inl (0, 10), .inr (1, [(1, 31), (1, 32), (1, 33), (1, 34)]), .inl (0, 56), .inl (0, 56), .inl (0, 56), .inl (0, 10), .inr (2, [(1, 36), (0, 0), (0, 0)]), .inl (0, 30), .inr (2, [(1, 38), (0, 0), (0, 0)]), .inl (0, 50), .inr (2, [(1, 40), (0, 0), (0, 0)]), .inl (0, 60), .inr (2, [(1, 42), (0, 0), (0, 0)]), .inl (0, 120), .inl (0, 10), .inr (5, [(1, 45), (1, 46), (0, 0), (0, 0), (0, 0)]), .inl (5, 24), .inl (0, 1024), .inr (8, [(1, 48), (1, 49), (1, 50), (1, 51), (0, 0)]), .inl (0, 56), .inl (0, 616), .inl (0, 7), .inl (0, 7), .inl (1, 10), .inl (0, 2776)]) st6 rfl (by decide) rfl rfl
  obtain ⟨A8, x8, e8, c8, t8⟩ := i_Mover (h0 := h0) (B := B) (z := z + 5978) (N := N) (D := A7) (s := x6)
  have st8 := ST_m (M' := [.inr (10, [(1, 1), (1, 3), (1, 4), (1, 5), (2, 0), (2, 0), (0, 0)]), .inr (6, [(1, 2), (0, 0)]), .inl (0, 300), .inr (7, [(1, 1), (0, 0), (0, 0)]), .inl (4, 6), .inr (0, [(1, 6), (1, 47), (1, 52), (1, 53), (0, 0), (0, 0)]), .inr (9, [(1, 7), (1, 12), (1, 13), (1, 14), (1, 15), (1, 16), (1, 17), (1, 18), (1, 19), (2, 0), (2, 0), (0, 0), (0, 0)]), .inr (1, [(1, 8), (1, 9), (1, 10), (1, 11)]), .inl (0, 56), .inl (0, 56), .inl (0, 56), .inl (0, 10), .inl (0, 56), .inl (0, 56), .inl (0, 56), .inl (0, 10), .inl (0, 10), .inl (0, 10), .inl (0, 10), .inl (0, 10), .inr (4, [(0, 0), (1, 21), (1, 23), (1, 24), (1, 25), (1, 30), (1, 35), (1, 37), (1, 39), (1, 41), (1, 43), (1, 44)]), .inr (2, [(1, 22), (0, 0), (0, 0)]), .inl (0, 35), .inl (0, 8), .inl (0, 7), .inr (1, [(1, 26), (1, 27), (1, 28), (1, 29)]), .inl (0, 56), .inl (0, 56), .inl (0, 56), .inl (0, 10), .inr (1, [(1, 31), (1, 32), (1, 33), (1, 34)]), .inl (0, 56), .inl (0, 56), .inl (0, 56), .inl (0, 10), .inr (2, [(1, 36), (0, 0), (0, 0)]), .inl (0, 30), .inr (2, [(1, 38), (0, 0), (0, 0)]), .inl (0, 50), .inr (2, [(1, 40), (0, 0), (0, 0)]), .inl (0, 60), .inr (2, [(1, 42), (0, 0), (0, 0)]), .inl (0, 120), .inl (0, 10), .inr (5, [(1, 45), (1, 46), (0, 0), (0, 0), (0, 0)]), .inl (5, 24), .inl (0, 1024), .inr (8, [(1, 48), (1, 49), (1, 50), (1, 51), (0, 0)]), .inl (0, 56), .inl (0, 616), .inl (0, 7), .inl (0, 7), .inl (1, 10), .inl (0, 2776), .inr (3, [(1, 55), (1, 56), (1, 57), (0, 0), (0, 0), (0, 0)]), .inl (0, 10), .inl (0, 10), .inl (0, 20)]) (ST_cat st7 c8) rfl rfl
  obtain ⟨A9, e9, st9⟩ := sa_n (h0 := h0) (B := B) (z := z + 6024) (q := 54) (j := 4) (ty := .object "BuriedPairs$Mover") (M' := [.inr (10, [(1, 1), (1, 3), (1, 4), (1, 5), (1, 54), (2, 0), (0, 0)]), .inr (6, [(1, 2), (0, 0)]), .inl (0, 300), .inr (7, [(1, 1), (0, 0), (0, 0)]), .inl (4, 6), .inr (0, [(1, 6), (1, 47), (1, 52), (1, 53), (0, 0), (0, 0)]), .inr (9, [(1, 7), (1, 12), (1, 13), (1, 14), (1, 15), (1, 16), (1, 17), (1, 18), (1, 19), (2, 0), (2, 0), (0, 0), (0, 0)]), .inr (1, [(1, 8), (1, 9), (1, 10), (1, 11)]), .inl (0, 56), .inl (0, 56), .inl (0, 56), .inl (0, 10), .inl (0, 56), .inl (0, 56), .inl (0, 56), .inl (0, 10), .inl (0, 10), .inl (0, 10), .inl (0, 10), .inl (0, 10), .inr (4, [(0, 0), (1, 21), (1, 23), (1, 24), (1, 25), (1, 30), (1, 35), (1, 37), (1, 39), (1, 41), (1, 43), (1, 44)]), .inr (2, [(1, 22), (0, 0), (0, 0)]), .inl (0, 35), .inl (0, 8), .inl (0, 7), .inr (1, [(1, 26), (1, 27), (1, 28), (1, 29)]), .inl (0, 56), .inl (0, 56), .inl (0, 56), .inl (0, 10), .inr (1, [(1, 31), (1, 32), (1, 33), (1, 34)]), .inl (0, 56), .inl (0, 56), .inl (0, 56), .inl (0, 10), .inr (2, [(1, 36), (0, 0), (0, 0)]), .inl (0, 30), .inr (2, [(1, 38), (0, 0), (0, 0)]), .inl (0, 50), .inr (2, [(1, 40), (0, 0), (0, 0)]), .inl (0, 60), .inr (2, [(1, 42), (0, 0), (0, 0)]), .inl (0, 120), .inl (0, 10), .inr (5, [(1, 45), (1, 46), (0, 0), (0, 0), (0, 0)]), .inl (5, 24), .inl (0, 1024), .inr (8, [(1, 48), (1, 49), (1, 50), (1, 51), (0, 0)]), .inl (0, 56), .inl (0, 616), .inl (0, 7), .inl (0, 7), .inl (1, 10), .inl (0, 2776), .inr (3, [(1, 55), (1, 56), (1, 57), (0, 0), (0, 0), (0, 0)]), .inl (0, 10), .inl (0, 10), .inl (0, 20)]) st8 rfl (by decide) rfl rfl
  obtain ⟨A10, x10, e10, c10, t10⟩ := i_plan58 (h0 := h0) (B := B) (z := z + 6024) (N := N) (D := A9) (s := x8) hN
  have st10 := ST_m (M' := [.inr (10, [(1, 1), (1, 3), (1, 4), (1, 5), (1, 54), (2, 0), (0, 0)]), .inr (6, [(1, 2), (0, 0)]), .inl (0, 300), .inr (7, [(1, 1), (0, 0), (0, 0)]), .inl (4, 6), .inr (0, [(1, 6), (1, 47), (1, 52), (1, 53), (0, 0), (0, 0)]), .inr (9, [(1, 7), (1, 12), (1, 13), (1, 14), (1, 15), (1, 16), (1, 17), (1, 18), (1, 19), (2, 0), (2, 0), (0, 0), (0, 0)]), .inr (1, [(1, 8), (1, 9), (1, 10), (1, 11)]), .inl (0, 56), .inl (0, 56), .inl (0, 56), .inl (0, 10), .inl (0, 56), .inl (0, 56), .inl (0, 56), .inl (0, 10), .inl (0, 10), .inl (0, 10), .inl (0, 10), .inl (0, 10), .inr (4, [(0, 0), (1, 21), (1, 23), (1, 24), (1, 25), (1, 30), (1, 35), (1, 37), (1, 39), (1, 41), (1, 43), (1, 44)]), .inr (2, [(1, 22), (0, 0), (0, 0)]), .inl (0, 35), .inl (0, 8), .inl (0, 7), .inr (1, [(1, 26), (1, 27), (1, 28), (1, 29)]), .inl (0, 56), .inl (0, 56), .inl (0, 56), .inl (0, 10), .inr (1, [(1, 31), (1, 32), (1, 33), (1, 34)]), .inl (0, 56), .inl (0, 56), .inl (0, 56), .inl (0, 10), .inr (2, [(1, 36), (0, 0), (0, 0)]), .inl (0, 30), .inr (2, [(1, 38), (0, 0), (0, 0)]), .inl (0, 50), .inr (2, [(1, 40), (0, 0), (0, 0)]), .inl (0, 60), .inr (2, [(1, 42), (0, 0), (0, 0)]), .inl (0, 120), .inl (0, 10), .inr (5, [(1, 45), (1, 46), (0, 0), (0, 0), (0, 0)]), .inl (5, 24), .inl (0, 1024), .inr (8, [(1, 48), (1, 49), (1, 50), (1, 51), (0, 0)]), .inl (0, 56), .inl (0, 616), .inl (0, 7), .inl (0, 7), .inl (1, 10), .inl (0, 2776), .inr (3, [(1, 55), (1, 56), (1, 57), (0, 0), (0, 0), (0, 0)]), .inl (0, 10), .inl (0, 10), .inl (0, 20), .inr (4, [(0, 0), (1, 59), (1, 61), (1, 62), (1, 63), (1, 68), (1, 73), (1, 75), (1, 77), (1, 79), (1, 81), (1, 82)]), .inr (2, [(1, 60), (0, 0), (0, 0)]), .inl (0, 35), .inl (0, 8), .inl (0, 7), .inr (1, [(1, 64), (1, 65), (1, 66), (1, 67)]), .inl (0, 56), .inl (0, 56), .inl (0, 56), .inl (0, 10), .inr (1, [(1, 69), (1, 70), (1, 71), (1, 72)]), .inl (0, 56), .inl (0, 56), .inl (0, 56), .inl (0, 10), .inr (2, [(1, 74), (0, 0), (0, 0)]), .inl (0, 30), .inr (2, [(1, 76), (0, 0), (0, 0)]), .inl (0, 50), .inr (2, [(1, 78), (0, 0), (0, 0)]), .inl (0, 60), .inr (2, [(1, 80), (0, 0), (0, 0)]), .inl (0, 120), .inl (0, 10), .inr (5, [(1, 83), (1, 84), (0, 0), (0, 0), (0, 0)]), .inl (5, 24), .inl (0, 1024)]) (ST_cat st9 c10) rfl rfl
  obtain ⟨x11, e11, st11, k11, v11⟩ := sa_d (h0 := h0) (B := B) (z := z + 7788) (q := 58) (j := 5) (w := 0) (C := "BuriedPairs$Plan") st10 rfl rfl (by decide)
  obtain ⟨x12, e12, st12, k12, v12⟩ := sa_i (h0 := h0) (B := B) (z := z + 7788) (v := 0) (j := 6) (w := 0) st11 rfl rfl
  refine ⟨A10, x12, ?_, st12, ?_, ?_, ?_, ?_, ?_⟩
  · unfold F_BP_init
    rw [rcv_st st0 rfl, if_pos rfl, my_st st0 rfl, if_pos rfl]
    rw [al_mk o_tape, Option.bind_some]
    dsimp only
    rw [e1, Option.bind_some]
    rw [e2, Option.bind_some]
    rw [al_mk o_rd, Option.bind_some]
    dsimp only
    rw [rr, Option.bind_some]
    dsimp only
    rw [e3, Option.bind_some]
    rw [e4, Option.bind_some]
    refine (e5 _).trans ?_
    rw [al_mk o_ben, Option.bind_some]
    dsimp only
    rw [e6, Option.bind_some]
    rw [e7, Option.bind_some]
    rw [al_mk o_mov, Option.bind_some]
    dsimp only
    rw [e8, Option.bind_some]
    rw [e9, Option.bind_some]
    rw [al_mk o_pla, Option.bind_some]
    dsimp only
    rw [e10, Option.bind_some]
    rw [e11, Option.bind_some]
    rw [e12, Option.bind_some]
  · rw [v12 5, if_neg (by decide), v11 5, if_pos rfl]
  · rw [v12 6, if_pos rfl]
  · rw [k12 1 (by decide), k11 1 (by decide), (c10.2.2 1 (by decide)).2, (c8.2.2 1 (by decide)).2, (c6.2.2 1 (by decide)).2, k5 1 (by decide), (c3.2.2 1 (by decide)).2]
    exact t1
  · intro i
    rw [k12 53 (by decide), k11 53 (by decide), (c10.2.2 53 (by decide)).2, (c8.2.2 53 (by decide)).2]
    exact t6 i
  · exact DRs_eq t10 (fun k k1 k2 => by rw [k12 k (by omega), k11 k (by omega)])
end INJ
