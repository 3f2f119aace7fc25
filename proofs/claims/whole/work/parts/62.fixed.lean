/-! ===== the fixed cells: 0 .. 84 the class, 85 .. 128 the reference, 129 the law's own row (written by wip/whole/gen/fixed.py) ===== -/
def dfx : List pd := [.inr (10, [(1, 1), (1, 3), (1, 4), (1, 5), (1, 54), (2, 0), (0, 0)]), .inr (6, [(1, 2), (0, 0)]), .inl (0, 300), .inr (7, [(1, 1), (0, 0), (0, 0)]), .inl (4, 6), .inr (0, [(1, 6), (1, 47), (1, 52), (1, 53), (0, 0), (0, 0)]), .inr (9, [(1, 7), (1, 12), (1, 13), (1, 14), (1, 15), (1, 16), (1, 17), (1, 18), (1, 19), (2, 0), (2, 0), (0, 0), (0, 0)]), .inr (1, [(1, 8), (1, 9), (1, 10), (1, 11)]), .inl (0, 56), .inl (0, 56), .inl (0, 56), .inl (0, 10), .inl (0, 56), .inl (0, 56), .inl (0, 56), .inl (0, 10), .inl (0, 10), .inl (0, 10), .inl (0, 10), .inl (0, 10), .inr (4, [(0, 0), (1, 21), (1, 23), (1, 24), (1, 25), (1, 30), (1, 35), (1, 37), (1, 39), (1, 41), (1, 43), (1, 44)]), .inr (2, [(1, 22), (0, 0), (0, 0)]), .inl (0, 35), .inl (0, 8), .inl (0, 7), .inr (1, [(1, 26), (1, 27), (1, 28), (1, 29)]), .inl (0, 56), .inl (0, 56), .inl (0, 56), .inl (0, 10), .inr (1, [(1, 31), (1, 32), (1, 33), (1, 34)]), .inl (0, 56), .inl (0, 56), .inl (0, 56), .inl (0, 10), .inr (2, [(1, 36), (0, 0), (0, 0)]), .inl (0, 30), .inr (2, [(1, 38), (0, 0), (0, 0)]), .inl (0, 50), .inr (2, [(1, 40), (0, 0), (0, 0)]), .inl (0, 60), .inr (2, [(1, 42), (0, 0), (0, 0)]), .inl (0, 120), .inl (0, 10), .inr (5, [(1, 45), (1, 46), (0, 0), (0, 0), (0, 0)]), .inl (5, 24), .inl (0, 1024), .inr (8, [(1, 48), (1, 49), (1, 50), (1, 51), (0, 0)]), .inl (0, 56), .inl (0, 616), .inl (0, 7), .inl (0, 7), .inl (1, 10), .inl (0, 2776), .inr (3, [(1, 55), (1, 56), (1, 57), (0, 0), (0, 0), (0, 0)]), .inl (0, 10), .inl (0, 10), .inl (0, 20), .inr (4, [(0, 0), (1, 59), (1, 61), (1, 62), (1, 63), (1, 68), (1, 73), (1, 75), (1, 77), (1, 79), (1, 81), (1, 82)]), .inr (2, [(1, 60), (0, 0), (0, 0)]), .inl (0, 35), .inl (0, 8), .inl (0, 7), .inr (1, [(1, 64), (1, 65), (1, 66), (1, 67)]), .inl (0, 56), .inl (0, 56), .inl (0, 56), .inl (0, 10), .inr (1, [(1, 69), (1, 70), (1, 71), (1, 72)]), .inl (0, 56), .inl (0, 56), .inl (0, 56), .inl (0, 10), .inr (2, [(1, 74), (0, 0), (0, 0)]), .inl (0, 30), .inr (2, [(1, 76), (0, 0), (0, 0)]), .inl (0, 50), .inr (2, [(1, 78), (0, 0), (0, 0)]), .inl (0, 60), .inr (2, [(1, 80), (0, 0), (0, 0)]), .inl (0, 120), .inl (0, 10), .inr (5, [(1, 83), (1, 84), (0, 0), (0, 0), (0, 0)]), .inl (5, 24), .inl (0, 1024), .inr (11, [(0, 0), (1, 86), (0, 0), (0, 0), (0, 0), (0, 0), (1, 87), (1, 88), (1, 89), (1, 90), (1, 91), (1, 92), (1, 93), (1, 94), (1, 95), (1, 96), (1, 97), (1, 98), (1, 99), (0, 0), (1, 100), (1, 101), (1, 102), (1, 103), (1, 104), (1, 105), (1, 106), (1, 107), (1, 108), (0, 0), (0, 0), (0, 0), (0, 0), (0, 0), (0, 0), (1, 109), (1, 110), (1, 111), (1, 112), (1, 113), (1, 114), (1, 115), (1, 116), (1, 117), (1, 118), (1, 119), (1, 120), (1, 121), (1, 122), (1, 123), (1, 124), (0, 0), (0, 0), (1, 125), (1, 126), (1, 127), (1, 128), (0, 0)]), .inl (2, 300), .inl (0, 7), .inl (0, 7), .inl (0, 49), .inl (0, 49), .inl (0, 49), .inl (0, 49), .inl (0, 7), .inl (0, 420), .inl (0, 420), .inl (0, 420), .inl (0, 420), .inl (0, 420), .inl (0, 7), .inl (0, 7), .inl (0, 60), .inl (0, 60), .inl (0, 60), .inl (0, 60), .inl (0, 60), .inl (0, 42), .inl (0, 42), .inl (0, 42), .inl (3, 462), .inl (1, 10), .inl (0, 7), .inl (0, 72), .inl (0, 72), .inl (0, 72), .inl (0, 72), .inl (0, 72), .inl (0, 72), .inl (0, 7), .inl (0, 144), .inl (0, 144), .inl (3, 144), .inl (3, 1024), .inl (0, 1024), .inl (0, 1024), .inl (0, 70), .inl (3, 6), .inl (3, 10), .inl (0, 26), .inl (1, 1)]
def FX (D : Nat → pd) (hi : Nat) : Prop := 130 ≤ hi ∧ ∀ k, k < 130 → D k = dfx.getD k (.inl (9, 0))
section FXS
variable {h0 : Nat → pm_C} {B : Nat} {D : Nat → pd} {c : Nat → Nat → Int32} {e : Nat → Nat → Int64} {hi z k n N t : Nat}
theorem fx_lt (h : FX D hi) (hk : k < 130) : k < hi := Nat.lt_of_lt_of_le hk h.1
theorem mk_cell (hk : k < hi) {d : pd} (hD : D k = d) : ps_h (mkS h0 B D c e hi z) (B + k) = tC B d (c k) (e k) ∧ pm_my (mkS h0 B D c e hi z) (B + k) = true := ⟨by rw [mk_h, hD], mk_my hk⟩
/-- arrays of bytes and of truths -/
theorem aB_mk (hk : k < hi) (ht : t = 2 ∨ t = 3) (hD : D k = .inl (t, n)) {i : Int32} (hi' : pm_in i n = true) : aI [2, 3] (mkS h0 B D c e hi z) (B + k) i = some (c k i.toNatClampNeg) := by
  obtain ⟨h1, h2⟩ := mk_cell (h0 := h0) (B := B) (c := c) (e := e) (z := z) hk hD
  unfold aI
  rw [h1]
  rcases ht with rfl | rfl
  · show (if ([2, 3] : List Nat).contains 2 && (pm_my _ _ || decide (2 = 6)) && pm_in i n then some (c k i.toNatClampNeg) else none) = _
    rw [h2, hi']
    rfl
  · show (if ([2, 3] : List Nat).contains 3 && (pm_my _ _ || decide (3 = 6)) && pm_in i n then some (c k i.toNatClampNeg) else none) = _
    rw [h2, hi']
    rfl
theorem sB_mk (hk : k < hi) (ht : t = 2 ∨ t = 3) (hD : D k = .inl (t, n)) {i x : Int32} (hi' : pm_in i n = true) : sI [2, 3] (mkS h0 B D c e hi z) (B + k) i x = some (mkS h0 B D (up1 c k (upd (c k) i.toNatClampNeg (pm_nar t x))) e hi z) := by
  obtain ⟨h1, h2⟩ := mk_cell (h0 := h0) (B := B) (c := c) (e := e) (z := z) hk hD
  unfold sI
  rw [h1]
  rcases ht with rfl | rfl
  · show (if ([2, 3] : List Nat).contains 2 && pm_my _ _ && pm_in i n then some (pm_wr _ _ (.inl (2, n, .inl (upd (c k) i.toNatClampNeg (pm_nar 2 x))))) else none) = _
    rw [h2, hi']
    show some (pm_wr _ _ _) = _
    rw [mk_wr (x := upd (c k) i.toNatClampNeg (pm_nar 2 x)) (y := e k) (by rw [hD]; rfl), up1_self]
  · show (if ([2, 3] : List Nat).contains 3 && pm_my _ _ && pm_in i n then some (pm_wr _ _ (.inl (3, n, .inl (upd (c k) i.toNatClampNeg (pm_nar 3 x))))) else none) = _
    rw [h2, hi']
    show some (pm_wr _ _ _) = _
    rw [mk_wr (x := upd (c k) i.toNatClampNeg (pm_nar 3 x)) (y := e k) (by rw [hD]; rfl), up1_self]
/-- arrays of longs -/
theorem aJ_mk (hk : k < hi) (hD : D k = .inl (1, n)) {i : Int32} (hi' : pm_in i n = true) : aJ (mkS h0 B D c e hi z) (B + k) i = some (e k i.toNatClampNeg) := by
  obtain ⟨h1, h2⟩ := mk_cell (h0 := h0) (B := B) (c := c) (e := e) (z := z) hk hD
  unfold aJ
  rw [h1]
  show (if decide (1 = 1) && pm_my _ _ && pm_in i n then some (e k i.toNatClampNeg) else none) = _
  rw [h2, hi']
  rfl
theorem sJ_mk (hk : k < hi) (hD : D k = .inl (1, n)) {i : Int32} {x : Int64} (hi' : pm_in i n = true) : sJ (mkS h0 B D c e hi z) (B + k) i x = some (mkS h0 B D c (up1 e k (vp_updL (e k) i.toNatClampNeg x)) hi z) := by
  obtain ⟨h1, h2⟩ := mk_cell (h0 := h0) (B := B) (c := c) (e := e) (z := z) hk hD
  unfold sJ
  rw [h1]
  show (if decide (1 = 1) && pm_my _ _ && pm_in i n then some (pm_wr _ _ (.inl (1, n, .inr (.inl (vp_updL (e k) i.toNatClampNeg x))))) else none) = _
  rw [h2, hi']
  show some (pm_wr _ _ _) = _
  rw [mk_wr (x := c k) (y := vp_updL (e k) i.toNatClampNeg x) (by rw [hD]; rfl), up1_self]
theorem fx_0 (h : FX D hi) : D 0 = .inr (10, [(1, 1), (1, 3), (1, 4), (1, 5), (1, 54), (2, 0), (0, 0)]) := h.2 0 (by decide)
theorem fx_1 (h : FX D hi) : D 1 = .inr (6, [(1, 2), (0, 0)]) := h.2 1 (by decide)
theorem fx_2 (h : FX D hi) : D 2 = .inl (0, 300) := h.2 2 (by decide)
theorem fx_3 (h : FX D hi) : D 3 = .inr (7, [(1, 1), (0, 0), (0, 0)]) := h.2 3 (by decide)
theorem fx_4 (h : FX D hi) : D 4 = .inl (4, 6) := h.2 4 (by decide)
theorem fx_5 (h : FX D hi) : D 5 = .inr (0, [(1, 6), (1, 47), (1, 52), (1, 53), (0, 0), (0, 0)]) := h.2 5 (by decide)
theorem fx_6 (h : FX D hi) : D 6 = .inr (9, [(1, 7), (1, 12), (1, 13), (1, 14), (1, 15), (1, 16), (1, 17), (1, 18), (1, 19), (2, 0), (2, 0), (0, 0), (0, 0)]) := h.2 6 (by decide)
theorem fx_7 (h : FX D hi) : D 7 = .inr (1, [(1, 8), (1, 9), (1, 10), (1, 11)]) := h.2 7 (by decide)
theorem fx_8 (h : FX D hi) : D 8 = .inl (0, 56) := h.2 8 (by decide)
theorem fx_9 (h : FX D hi) : D 9 = .inl (0, 56) := h.2 9 (by decide)
theorem fx_10 (h : FX D hi) : D 10 = .inl (0, 56) := h.2 10 (by decide)
theorem fx_11 (h : FX D hi) : D 11 = .inl (0, 10) := h.2 11 (by decide)
theorem fx_12 (h : FX D hi) : D 12 = .inl (0, 56) := h.2 12 (by decide)
theorem fx_13 (h : FX D hi) : D 13 = .inl (0, 56) := h.2 13 (by decide)
theorem fx_14 (h : FX D hi) : D 14 = .inl (0, 56) := h.2 14 (by decide)
theorem fx_15 (h : FX D hi) : D 15 = .inl (0, 10) := h.2 15 (by decide)
theorem fx_16 (h : FX D hi) : D 16 = .inl (0, 10) := h.2 16 (by decide)
theorem fx_17 (h : FX D hi) : D 17 = .inl (0, 10) := h.2 17 (by decide)
theorem fx_18 (h : FX D hi) : D 18 = .inl (0, 10) := h.2 18 (by decide)
theorem fx_19 (h : FX D hi) : D 19 = .inl (0, 10) := h.2 19 (by decide)
theorem fx_20 (h : FX D hi) : D 20 = .inr (4, [(0, 0), (1, 21), (1, 23), (1, 24), (1, 25), (1, 30), (1, 35), (1, 37), (1, 39), (1, 41), (1, 43), (1, 44)]) := h.2 20 (by decide)
theorem fx_21 (h : FX D hi) : D 21 = .inr (2, [(1, 22), (0, 0), (0, 0)]) := h.2 21 (by decide)
theorem fx_22 (h : FX D hi) : D 22 = .inl (0, 35) := h.2 22 (by decide)
theorem fx_23 (h : FX D hi) : D 23 = .inl (0, 8) := h.2 23 (by decide)
theorem fx_24 (h : FX D hi) : D 24 = .inl (0, 7) := h.2 24 (by decide)
theorem fx_25 (h : FX D hi) : D 25 = .inr (1, [(1, 26), (1, 27), (1, 28), (1, 29)]) := h.2 25 (by decide)
theorem fx_26 (h : FX D hi) : D 26 = .inl (0, 56) := h.2 26 (by decide)
theorem fx_27 (h : FX D hi) : D 27 = .inl (0, 56) := h.2 27 (by decide)
theorem fx_28 (h : FX D hi) : D 28 = .inl (0, 56) := h.2 28 (by decide)
theorem fx_29 (h : FX D hi) : D 29 = .inl (0, 10) := h.2 29 (by decide)
theorem fx_30 (h : FX D hi) : D 30 = .inr (1, [(1, 31), (1, 32), (1, 33), (1, 34)]) := h.2 30 (by decide)
theorem fx_31 (h : FX D hi) : D 31 = .inl (0, 56) := h.2 31 (by decide)
theorem fx_32 (h : FX D hi) : D 32 = .inl (0, 56) := h.2 32 (by decide)
theorem fx_33 (h : FX D hi) : D 33 = .inl (0, 56) := h.2 33 (by decide)
theorem fx_34 (h : FX D hi) : D 34 = .inl (0, 10) := h.2 34 (by decide)
theorem fx_35 (h : FX D hi) : D 35 = .inr (2, [(1, 36), (0, 0), (0, 0)]) := h.2 35 (by decide)
theorem fx_36 (h : FX D hi) : D 36 = .inl (0, 30) := h.2 36 (by decide)
theorem fx_37 (h : FX D hi) : D 37 = .inr (2, [(1, 38), (0, 0), (0, 0)]) := h.2 37 (by decide)
theorem fx_38 (h : FX D hi) : D 38 = .inl (0, 50) := h.2 38 (by decide)
theorem fx_39 (h : FX D hi) : D 39 = .inr (2, [(1, 40), (0, 0), (0, 0)]) := h.2 39 (by decide)
theorem fx_40 (h : FX D hi) : D 40 = .inl (0, 60) := h.2 40 (by decide)
theorem fx_41 (h : FX D hi) : D 41 = .inr (2, [(1, 42), (0, 0), (0, 0)]) := h.2 41 (by decide)
theorem fx_42 (h : FX D hi) : D 42 = .inl (0, 120) := h.2 42 (by decide)
theorem fx_43 (h : FX D hi) : D 43 = .inl (0, 10) := h.2 43 (by decide)
theorem fx_44 (h : FX D hi) : D 44 = .inr (5, [(1, 45), (1, 46), (0, 0), (0, 0), (0, 0)]) := h.2 44 (by decide)
theorem fx_45 (h : FX D hi) : D 45 = .inl (5, 24) := h.2 45 (by decide)
theorem fx_46 (h : FX D hi) : D 46 = .inl (0, 1024) := h.2 46 (by decide)
theorem fx_47 (h : FX D hi) : D 47 = .inr (8, [(1, 48), (1, 49), (1, 50), (1, 51), (0, 0)]) := h.2 47 (by decide)
theorem fx_48 (h : FX D hi) : D 48 = .inl (0, 56) := h.2 48 (by decide)
theorem fx_49 (h : FX D hi) : D 49 = .inl (0, 616) := h.2 49 (by decide)
theorem fx_50 (h : FX D hi) : D 50 = .inl (0, 7) := h.2 50 (by decide)
theorem fx_51 (h : FX D hi) : D 51 = .inl (0, 7) := h.2 51 (by decide)
theorem fx_52 (h : FX D hi) : D 52 = .inl (1, 10) := h.2 52 (by decide)
theorem fx_53 (h : FX D hi) : D 53 = .inl (0, 2776) := h.2 53 (by decide)
theorem fx_54 (h : FX D hi) : D 54 = .inr (3, [(1, 55), (1, 56), (1, 57), (0, 0), (0, 0), (0, 0)]) := h.2 54 (by decide)
theorem fx_55 (h : FX D hi) : D 55 = .inl (0, 10) := h.2 55 (by decide)
theorem fx_56 (h : FX D hi) : D 56 = .inl (0, 10) := h.2 56 (by decide)
theorem fx_57 (h : FX D hi) : D 57 = .inl (0, 20) := h.2 57 (by decide)
theorem fx_58 (h : FX D hi) : D 58 = .inr (4, [(0, 0), (1, 59), (1, 61), (1, 62), (1, 63), (1, 68), (1, 73), (1, 75), (1, 77), (1, 79), (1, 81), (1, 82)]) := h.2 58 (by decide)
theorem fx_59 (h : FX D hi) : D 59 = .inr (2, [(1, 60), (0, 0), (0, 0)]) := h.2 59 (by decide)
theorem fx_60 (h : FX D hi) : D 60 = .inl (0, 35) := h.2 60 (by decide)
theorem fx_61 (h : FX D hi) : D 61 = .inl (0, 8) := h.2 61 (by decide)
theorem fx_62 (h : FX D hi) : D 62 = .inl (0, 7) := h.2 62 (by decide)
theorem fx_63 (h : FX D hi) : D 63 = .inr (1, [(1, 64), (1, 65), (1, 66), (1, 67)]) := h.2 63 (by decide)
theorem fx_64 (h : FX D hi) : D 64 = .inl (0, 56) := h.2 64 (by decide)
theorem fx_65 (h : FX D hi) : D 65 = .inl (0, 56) := h.2 65 (by decide)
theorem fx_66 (h : FX D hi) : D 66 = .inl (0, 56) := h.2 66 (by decide)
theorem fx_67 (h : FX D hi) : D 67 = .inl (0, 10) := h.2 67 (by decide)
theorem fx_68 (h : FX D hi) : D 68 = .inr (1, [(1, 69), (1, 70), (1, 71), (1, 72)]) := h.2 68 (by decide)
theorem fx_69 (h : FX D hi) : D 69 = .inl (0, 56) := h.2 69 (by decide)
theorem fx_70 (h : FX D hi) : D 70 = .inl (0, 56) := h.2 70 (by decide)
theorem fx_71 (h : FX D hi) : D 71 = .inl (0, 56) := h.2 71 (by decide)
theorem fx_72 (h : FX D hi) : D 72 = .inl (0, 10) := h.2 72 (by decide)
theorem fx_73 (h : FX D hi) : D 73 = .inr (2, [(1, 74), (0, 0), (0, 0)]) := h.2 73 (by decide)
theorem fx_74 (h : FX D hi) : D 74 = .inl (0, 30) := h.2 74 (by decide)
theorem fx_75 (h : FX D hi) : D 75 = .inr (2, [(1, 76), (0, 0), (0, 0)]) := h.2 75 (by decide)
theorem fx_76 (h : FX D hi) : D 76 = .inl (0, 50) := h.2 76 (by decide)
theorem fx_77 (h : FX D hi) : D 77 = .inr (2, [(1, 78), (0, 0), (0, 0)]) := h.2 77 (by decide)
theorem fx_78 (h : FX D hi) : D 78 = .inl (0, 60) := h.2 78 (by decide)
theorem fx_79 (h : FX D hi) : D 79 = .inr (2, [(1, 80), (0, 0), (0, 0)]) := h.2 79 (by decide)
theorem fx_80 (h : FX D hi) : D 80 = .inl (0, 120) := h.2 80 (by decide)
theorem fx_81 (h : FX D hi) : D 81 = .inl (0, 10) := h.2 81 (by decide)
theorem fx_82 (h : FX D hi) : D 82 = .inr (5, [(1, 83), (1, 84), (0, 0), (0, 0), (0, 0)]) := h.2 82 (by decide)
theorem fx_83 (h : FX D hi) : D 83 = .inl (5, 24) := h.2 83 (by decide)
theorem fx_84 (h : FX D hi) : D 84 = .inl (0, 1024) := h.2 84 (by decide)
theorem fx_85 (h : FX D hi) : D 85 = .inr (11, [(0, 0), (1, 86), (0, 0), (0, 0), (0, 0), (0, 0), (1, 87), (1, 88), (1, 89), (1, 90), (1, 91), (1, 92), (1, 93), (1, 94), (1, 95), (1, 96), (1, 97), (1, 98), (1, 99), (0, 0), (1, 100), (1, 101), (1, 102), (1, 103), (1, 104), (1, 105), (1, 106), (1, 107), (1, 108), (0, 0), (0, 0), (0, 0), (0, 0), (0, 0), (0, 0), (1, 109), (1, 110), (1, 111), (1, 112), (1, 113), (1, 114), (1, 115), (1, 116), (1, 117), (1, 118), (1, 119), (1, 120), (1, 121), (1, 122), (1, 123), (1, 124), (0, 0), (0, 0), (1, 125), (1, 126), (1, 127), (1, 128), (0, 0)]) := h.2 85 (by decide)
theorem fx_86 (h : FX D hi) : D 86 = .inl (2, 300) := h.2 86 (by decide)
theorem fx_87 (h : FX D hi) : D 87 = .inl (0, 7) := h.2 87 (by decide)
theorem fx_88 (h : FX D hi) : D 88 = .inl (0, 7) := h.2 88 (by decide)
theorem fx_89 (h : FX D hi) : D 89 = .inl (0, 49) := h.2 89 (by decide)
theorem fx_90 (h : FX D hi) : D 90 = .inl (0, 49) := h.2 90 (by decide)
theorem fx_91 (h : FX D hi) : D 91 = .inl (0, 49) := h.2 91 (by decide)
theorem fx_92 (h : FX D hi) : D 92 = .inl (0, 49) := h.2 92 (by decide)
theorem fx_93 (h : FX D hi) : D 93 = .inl (0, 7) := h.2 93 (by decide)
theorem fx_94 (h : FX D hi) : D 94 = .inl (0, 420) := h.2 94 (by decide)
theorem fx_95 (h : FX D hi) : D 95 = .inl (0, 420) := h.2 95 (by decide)
theorem fx_96 (h : FX D hi) : D 96 = .inl (0, 420) := h.2 96 (by decide)
theorem fx_97 (h : FX D hi) : D 97 = .inl (0, 420) := h.2 97 (by decide)
theorem fx_98 (h : FX D hi) : D 98 = .inl (0, 420) := h.2 98 (by decide)
theorem fx_99 (h : FX D hi) : D 99 = .inl (0, 7) := h.2 99 (by decide)
theorem fx_100 (h : FX D hi) : D 100 = .inl (0, 7) := h.2 100 (by decide)
theorem fx_101 (h : FX D hi) : D 101 = .inl (0, 60) := h.2 101 (by decide)
theorem fx_102 (h : FX D hi) : D 102 = .inl (0, 60) := h.2 102 (by decide)
theorem fx_103 (h : FX D hi) : D 103 = .inl (0, 60) := h.2 103 (by decide)
theorem fx_104 (h : FX D hi) : D 104 = .inl (0, 60) := h.2 104 (by decide)
theorem fx_105 (h : FX D hi) : D 105 = .inl (0, 60) := h.2 105 (by decide)
theorem fx_106 (h : FX D hi) : D 106 = .inl (0, 42) := h.2 106 (by decide)
theorem fx_107 (h : FX D hi) : D 107 = .inl (0, 42) := h.2 107 (by decide)
theorem fx_108 (h : FX D hi) : D 108 = .inl (0, 42) := h.2 108 (by decide)
theorem fx_109 (h : FX D hi) : D 109 = .inl (3, 462) := h.2 109 (by decide)
theorem fx_110 (h : FX D hi) : D 110 = .inl (1, 10) := h.2 110 (by decide)
theorem fx_111 (h : FX D hi) : D 111 = .inl (0, 7) := h.2 111 (by decide)
theorem fx_112 (h : FX D hi) : D 112 = .inl (0, 72) := h.2 112 (by decide)
theorem fx_113 (h : FX D hi) : D 113 = .inl (0, 72) := h.2 113 (by decide)
theorem fx_114 (h : FX D hi) : D 114 = .inl (0, 72) := h.2 114 (by decide)
theorem fx_115 (h : FX D hi) : D 115 = .inl (0, 72) := h.2 115 (by decide)
theorem fx_116 (h : FX D hi) : D 116 = .inl (0, 72) := h.2 116 (by decide)
theorem fx_117 (h : FX D hi) : D 117 = .inl (0, 72) := h.2 117 (by decide)
theorem fx_118 (h : FX D hi) : D 118 = .inl (0, 7) := h.2 118 (by decide)
theorem fx_119 (h : FX D hi) : D 119 = .inl (0, 144) := h.2 119 (by decide)
theorem fx_120 (h : FX D hi) : D 120 = .inl (0, 144) := h.2 120 (by decide)
theorem fx_121 (h : FX D hi) : D 121 = .inl (3, 144) := h.2 121 (by decide)
theorem fx_122 (h : FX D hi) : D 122 = .inl (3, 1024) := h.2 122 (by decide)
theorem fx_123 (h : FX D hi) : D 123 = .inl (0, 1024) := h.2 123 (by decide)
theorem fx_124 (h : FX D hi) : D 124 = .inl (0, 1024) := h.2 124 (by decide)
theorem fx_125 (h : FX D hi) : D 125 = .inl (0, 70) := h.2 125 (by decide)
theorem fx_126 (h : FX D hi) : D 126 = .inl (3, 6) := h.2 126 (by decide)
theorem fx_127 (h : FX D hi) : D 127 = .inl (3, 10) := h.2 127 (by decide)
theorem fx_128 (h : FX D hi) : D 128 = .inl (0, 26) := h.2 128 (by decide)
theorem fx_129 (h : FX D hi) : D 129 = .inl (1, 1) := h.2 129 (by decide)
theorem rc_0 (h : FX D hi) : rcv (mkS h0 B D c e hi z) (B + 0) 10 = true := rcv_mk (fx_lt h (by decide)) (fx_0 h)
theorem rd_0_0 (h : FX D hi) : oR (mkS h0 B D c e hi z) (B + 0) 10 0 = some (some (B + 1)) := oR_mk (fx_lt h (by decide)) (fx_0 h) (v := 1) rfl
theorem rd_0_1 (h : FX D hi) : oR (mkS h0 B D c e hi z) (B + 0) 10 1 = some (some (B + 3)) := oR_mk (fx_lt h (by decide)) (fx_0 h) (v := 3) rfl
theorem rd_0_2 (h : FX D hi) : oR (mkS h0 B D c e hi z) (B + 0) 10 2 = some (some (B + 4)) := oR_mk (fx_lt h (by decide)) (fx_0 h) (v := 4) rfl
theorem rd_0_3 (h : FX D hi) : oR (mkS h0 B D c e hi z) (B + 0) 10 3 = some (some (B + 5)) := oR_mk (fx_lt h (by decide)) (fx_0 h) (v := 5) rfl
theorem rd_0_4 (h : FX D hi) : oR (mkS h0 B D c e hi z) (B + 0) 10 4 = some (some (B + 54)) := oR_mk (fx_lt h (by decide)) (fx_0 h) (v := 54) rfl
theorem rd_0_5 (h : FX D hi) : oR (mkS h0 B D c e hi z) (B + 0) 10 5 = some (rof B (c 0 5)) := oD_mk (fx_lt h (by decide)) (fx_0 h) (v := 0) rfl
theorem rd_0_6 (h : FX D hi) : oI (mkS h0 B D c e hi z) (B + 0) 10 6 = some (c 0 6) := oI_mk (fx_lt h (by decide)) (fx_0 h) (v := 0) rfl
theorem wr_0_6 (h : FX D hi) {w : Int32} : wF (mkS h0 B D c e hi z) (B + 0) 10 6 .int (.int w) = some (mkS h0 B D (up1 c 0 (upd (c 0) 6 w)) e hi z) := wI_mk (fx_lt h (by decide)) (fx_0 h) (v := 0) rfl
theorem rc_1 (h : FX D hi) : rcv (mkS h0 B D c e hi z) (B + 1) 6 = true := rcv_mk (fx_lt h (by decide)) (fx_1 h)
theorem rd_1_0 (h : FX D hi) : oR (mkS h0 B D c e hi z) (B + 1) 6 0 = some (some (B + 2)) := oR_mk (fx_lt h (by decide)) (fx_1 h) (v := 2) rfl
theorem rd_1_1 (h : FX D hi) : oI (mkS h0 B D c e hi z) (B + 1) 6 1 = some (c 1 1) := oI_mk (fx_lt h (by decide)) (fx_1 h) (v := 0) rfl
theorem wr_1_1 (h : FX D hi) {w : Int32} : wF (mkS h0 B D c e hi z) (B + 1) 6 1 .int (.int w) = some (mkS h0 B D (up1 c 1 (upd (c 1) 1 w)) e hi z) := wI_mk (fx_lt h (by decide)) (fx_1 h) (v := 0) rfl
theorem ai_2 (h : FX D hi) {i : Int32} (hi' : pm_in i 300 = true) : aI [0, 6] (mkS h0 B D c e hi z) (B + 2) i = some (c 2 i.toNatClampNeg) := aI_mk (fx_lt h (by decide)) (fx_2 h) hi'
theorem si_2 (h : FX D hi) {i x : Int32} (hi' : pm_in i 300 = true) : sI [0] (mkS h0 B D c e hi z) (B + 2) i x = some (mkS h0 B D (up1 c 2 (upd (c 2) i.toNatClampNeg x)) e hi z) := sI_mk (fx_lt h (by decide)) (fx_2 h) hi'
theorem an_2 (h : FX D hi) : aNS (mkS h0 B D c e hi z) (B + 2) = some 300 := aN_mk (fx_lt h (by decide)) (fx_2 h)
theorem va_2 (h : FX D hi) {i : Int32} : F_BP_valueAt N (mkS h0 B D c e hi z) (B + 2) i = some (vat 300 (c 2) i, mkS h0 B D c e hi z) := valueAt_mk (fx_lt h (by decide)) (fx_2 h) (by decide)
theorem vs_2 (h : FX D hi) {i x : Int32} : F_BP_setAt N (mkS h0 B D c e hi z) (B + 2) i x = some (mkS h0 B D (up1 c 2 (vset 300 (c 2) i x)) e hi z) := setAt_mk (fx_lt h (by decide)) (fx_2 h) (by decide)
theorem rc_3 (h : FX D hi) : rcv (mkS h0 B D c e hi z) (B + 3) 7 = true := rcv_mk (fx_lt h (by decide)) (fx_3 h)
theorem rd_3_0 (h : FX D hi) : oR (mkS h0 B D c e hi z) (B + 3) 7 0 = some (some (B + 1)) := oR_mk (fx_lt h (by decide)) (fx_3 h) (v := 1) rfl
theorem rd_3_1 (h : FX D hi) : oI (mkS h0 B D c e hi z) (B + 3) 7 1 = some (c 3 1) := oI_mk (fx_lt h (by decide)) (fx_3 h) (v := 0) rfl
theorem wr_3_1 (h : FX D hi) {w : Int32} : wF (mkS h0 B D c e hi z) (B + 3) 7 1 .int (.int w) = some (mkS h0 B D (up1 c 3 (upd (c 3) 1 w)) e hi z) := wI_mk (fx_lt h (by decide)) (fx_3 h) (v := 0) rfl
theorem rd_3_2 (h : FX D hi) : oI (mkS h0 B D c e hi z) (B + 3) 7 2 = some (c 3 2) := oI_mk (fx_lt h (by decide)) (fx_3 h) (v := 0) rfl
theorem wr_3_2 (h : FX D hi) {w : Int32} : wF (mkS h0 B D c e hi z) (B + 3) 7 2 .int (.int w) = some (mkS h0 B D (up1 c 3 (upd (c 3) 2 w)) e hi z) := wI_mk (fx_lt h (by decide)) (fx_3 h) (v := 0) rfl
theorem rc_5 (h : FX D hi) : rcv (mkS h0 B D c e hi z) (B + 5) 0 = true := rcv_mk (fx_lt h (by decide)) (fx_5 h)
theorem rd_5_0 (h : FX D hi) : oR (mkS h0 B D c e hi z) (B + 5) 0 0 = some (some (B + 6)) := oR_mk (fx_lt h (by decide)) (fx_5 h) (v := 6) rfl
theorem rd_5_1 (h : FX D hi) : oR (mkS h0 B D c e hi z) (B + 5) 0 1 = some (some (B + 47)) := oR_mk (fx_lt h (by decide)) (fx_5 h) (v := 47) rfl
theorem rd_5_2 (h : FX D hi) : oR (mkS h0 B D c e hi z) (B + 5) 0 2 = some (some (B + 52)) := oR_mk (fx_lt h (by decide)) (fx_5 h) (v := 52) rfl
theorem rd_5_3 (h : FX D hi) : oR (mkS h0 B D c e hi z) (B + 5) 0 3 = some (some (B + 53)) := oR_mk (fx_lt h (by decide)) (fx_5 h) (v := 53) rfl
theorem rd_5_4 (h : FX D hi) : oI (mkS h0 B D c e hi z) (B + 5) 0 4 = some (c 5 4) := oI_mk (fx_lt h (by decide)) (fx_5 h) (v := 0) rfl
theorem wr_5_4 (h : FX D hi) {w : Int32} : wF (mkS h0 B D c e hi z) (B + 5) 0 4 .int (.int w) = some (mkS h0 B D (up1 c 5 (upd (c 5) 4 w)) e hi z) := wI_mk (fx_lt h (by decide)) (fx_5 h) (v := 0) rfl
theorem rd_5_5 (h : FX D hi) : oI (mkS h0 B D c e hi z) (B + 5) 0 5 = some (c 5 5) := oI_mk (fx_lt h (by decide)) (fx_5 h) (v := 0) rfl
theorem wr_5_5 (h : FX D hi) {w : Int32} : wF (mkS h0 B D c e hi z) (B + 5) 0 5 .int (.int w) = some (mkS h0 B D (up1 c 5 (upd (c 5) 5 w)) e hi z) := wI_mk (fx_lt h (by decide)) (fx_5 h) (v := 0) rfl
theorem rc_6 (h : FX D hi) : rcv (mkS h0 B D c e hi z) (B + 6) 9 = true := rcv_mk (fx_lt h (by decide)) (fx_6 h)
theorem rd_6_0 (h : FX D hi) : oR (mkS h0 B D c e hi z) (B + 6) 9 0 = some (some (B + 7)) := oR_mk (fx_lt h (by decide)) (fx_6 h) (v := 7) rfl
theorem rd_6_1 (h : FX D hi) : oR (mkS h0 B D c e hi z) (B + 6) 9 1 = some (some (B + 12)) := oR_mk (fx_lt h (by decide)) (fx_6 h) (v := 12) rfl
theorem rd_6_2 (h : FX D hi) : oR (mkS h0 B D c e hi z) (B + 6) 9 2 = some (some (B + 13)) := oR_mk (fx_lt h (by decide)) (fx_6 h) (v := 13) rfl
theorem rd_6_3 (h : FX D hi) : oR (mkS h0 B D c e hi z) (B + 6) 9 3 = some (some (B + 14)) := oR_mk (fx_lt h (by decide)) (fx_6 h) (v := 14) rfl
theorem rd_6_4 (h : FX D hi) : oR (mkS h0 B D c e hi z) (B + 6) 9 4 = some (some (B + 15)) := oR_mk (fx_lt h (by decide)) (fx_6 h) (v := 15) rfl
theorem rd_6_5 (h : FX D hi) : oR (mkS h0 B D c e hi z) (B + 6) 9 5 = some (some (B + 16)) := oR_mk (fx_lt h (by decide)) (fx_6 h) (v := 16) rfl
theorem rd_6_6 (h : FX D hi) : oR (mkS h0 B D c e hi z) (B + 6) 9 6 = some (some (B + 17)) := oR_mk (fx_lt h (by decide)) (fx_6 h) (v := 17) rfl
theorem rd_6_7 (h : FX D hi) : oR (mkS h0 B D c e hi z) (B + 6) 9 7 = some (some (B + 18)) := oR_mk (fx_lt h (by decide)) (fx_6 h) (v := 18) rfl
theorem rd_6_8 (h : FX D hi) : oR (mkS h0 B D c e hi z) (B + 6) 9 8 = some (some (B + 19)) := oR_mk (fx_lt h (by decide)) (fx_6 h) (v := 19) rfl
theorem rd_6_9 (h : FX D hi) : oR (mkS h0 B D c e hi z) (B + 6) 9 9 = some (rof B (c 6 9)) := oD_mk (fx_lt h (by decide)) (fx_6 h) (v := 0) rfl
theorem rd_6_10 (h : FX D hi) : oR (mkS h0 B D c e hi z) (B + 6) 9 10 = some (rof B (c 6 10)) := oD_mk (fx_lt h (by decide)) (fx_6 h) (v := 0) rfl
theorem rd_6_11 (h : FX D hi) : oI (mkS h0 B D c e hi z) (B + 6) 9 11 = some (c 6 11) := oI_mk (fx_lt h (by decide)) (fx_6 h) (v := 0) rfl
theorem wr_6_11 (h : FX D hi) {w : Int32} : wF (mkS h0 B D c e hi z) (B + 6) 9 11 .int (.int w) = some (mkS h0 B D (up1 c 6 (upd (c 6) 11 w)) e hi z) := wI_mk (fx_lt h (by decide)) (fx_6 h) (v := 0) rfl
theorem rd_6_12 (h : FX D hi) : oI (mkS h0 B D c e hi z) (B + 6) 9 12 = some (c 6 12) := oI_mk (fx_lt h (by decide)) (fx_6 h) (v := 0) rfl
theorem wr_6_12 (h : FX D hi) {w : Int32} : wF (mkS h0 B D c e hi z) (B + 6) 9 12 .int (.int w) = some (mkS h0 B D (up1 c 6 (upd (c 6) 12 w)) e hi z) := wI_mk (fx_lt h (by decide)) (fx_6 h) (v := 0) rfl
theorem rc_7 (h : FX D hi) : rcv (mkS h0 B D c e hi z) (B + 7) 1 = true := rcv_mk (fx_lt h (by decide)) (fx_7 h)
theorem rd_7_0 (h : FX D hi) : oR (mkS h0 B D c e hi z) (B + 7) 1 0 = some (some (B + 8)) := oR_mk (fx_lt h (by decide)) (fx_7 h) (v := 8) rfl
theorem rd_7_1 (h : FX D hi) : oR (mkS h0 B D c e hi z) (B + 7) 1 1 = some (some (B + 9)) := oR_mk (fx_lt h (by decide)) (fx_7 h) (v := 9) rfl
theorem rd_7_2 (h : FX D hi) : oR (mkS h0 B D c e hi z) (B + 7) 1 2 = some (some (B + 10)) := oR_mk (fx_lt h (by decide)) (fx_7 h) (v := 10) rfl
theorem rd_7_3 (h : FX D hi) : oR (mkS h0 B D c e hi z) (B + 7) 1 3 = some (some (B + 11)) := oR_mk (fx_lt h (by decide)) (fx_7 h) (v := 11) rfl
theorem ai_8 (h : FX D hi) {i : Int32} (hi' : pm_in i 56 = true) : aI [0, 6] (mkS h0 B D c e hi z) (B + 8) i = some (c 8 i.toNatClampNeg) := aI_mk (fx_lt h (by decide)) (fx_8 h) hi'
theorem si_8 (h : FX D hi) {i x : Int32} (hi' : pm_in i 56 = true) : sI [0] (mkS h0 B D c e hi z) (B + 8) i x = some (mkS h0 B D (up1 c 8 (upd (c 8) i.toNatClampNeg x)) e hi z) := sI_mk (fx_lt h (by decide)) (fx_8 h) hi'
theorem an_8 (h : FX D hi) : aNS (mkS h0 B D c e hi z) (B + 8) = some 56 := aN_mk (fx_lt h (by decide)) (fx_8 h)
theorem va_8 (h : FX D hi) {i : Int32} : F_BP_valueAt N (mkS h0 B D c e hi z) (B + 8) i = some (vat 56 (c 8) i, mkS h0 B D c e hi z) := valueAt_mk (fx_lt h (by decide)) (fx_8 h) (by decide)
theorem vs_8 (h : FX D hi) {i x : Int32} : F_BP_setAt N (mkS h0 B D c e hi z) (B + 8) i x = some (mkS h0 B D (up1 c 8 (vset 56 (c 8) i x)) e hi z) := setAt_mk (fx_lt h (by decide)) (fx_8 h) (by decide)
theorem ai_9 (h : FX D hi) {i : Int32} (hi' : pm_in i 56 = true) : aI [0, 6] (mkS h0 B D c e hi z) (B + 9) i = some (c 9 i.toNatClampNeg) := aI_mk (fx_lt h (by decide)) (fx_9 h) hi'
theorem si_9 (h : FX D hi) {i x : Int32} (hi' : pm_in i 56 = true) : sI [0] (mkS h0 B D c e hi z) (B + 9) i x = some (mkS h0 B D (up1 c 9 (upd (c 9) i.toNatClampNeg x)) e hi z) := sI_mk (fx_lt h (by decide)) (fx_9 h) hi'
theorem an_9 (h : FX D hi) : aNS (mkS h0 B D c e hi z) (B + 9) = some 56 := aN_mk (fx_lt h (by decide)) (fx_9 h)
theorem va_9 (h : FX D hi) {i : Int32} : F_BP_valueAt N (mkS h0 B D c e hi z) (B + 9) i = some (vat 56 (c 9) i, mkS h0 B D c e hi z) := valueAt_mk (fx_lt h (by decide)) (fx_9 h) (by decide)
theorem vs_9 (h : FX D hi) {i x : Int32} : F_BP_setAt N (mkS h0 B D c e hi z) (B + 9) i x = some (mkS h0 B D (up1 c 9 (vset 56 (c 9) i x)) e hi z) := setAt_mk (fx_lt h (by decide)) (fx_9 h) (by decide)
theorem ai_10 (h : FX D hi) {i : Int32} (hi' : pm_in i 56 = true) : aI [0, 6] (mkS h0 B D c e hi z) (B + 10) i = some (c 10 i.toNatClampNeg) := aI_mk (fx_lt h (by decide)) (fx_10 h) hi'
theorem si_10 (h : FX D hi) {i x : Int32} (hi' : pm_in i 56 = true) : sI [0] (mkS h0 B D c e hi z) (B + 10) i x = some (mkS h0 B D (up1 c 10 (upd (c 10) i.toNatClampNeg x)) e hi z) := sI_mk (fx_lt h (by decide)) (fx_10 h) hi'
theorem an_10 (h : FX D hi) : aNS (mkS h0 B D c e hi z) (B + 10) = some 56 := aN_mk (fx_lt h (by decide)) (fx_10 h)
theorem va_10 (h : FX D hi) {i : Int32} : F_BP_valueAt N (mkS h0 B D c e hi z) (B + 10) i = some (vat 56 (c 10) i, mkS h0 B D c e hi z) := valueAt_mk (fx_lt h (by decide)) (fx_10 h) (by decide)
theorem vs_10 (h : FX D hi) {i x : Int32} : F_BP_setAt N (mkS h0 B D c e hi z) (B + 10) i x = some (mkS h0 B D (up1 c 10 (vset 56 (c 10) i x)) e hi z) := setAt_mk (fx_lt h (by decide)) (fx_10 h) (by decide)
theorem ai_11 (h : FX D hi) {i : Int32} (hi' : pm_in i 10 = true) : aI [0, 6] (mkS h0 B D c e hi z) (B + 11) i = some (c 11 i.toNatClampNeg) := aI_mk (fx_lt h (by decide)) (fx_11 h) hi'
theorem si_11 (h : FX D hi) {i x : Int32} (hi' : pm_in i 10 = true) : sI [0] (mkS h0 B D c e hi z) (B + 11) i x = some (mkS h0 B D (up1 c 11 (upd (c 11) i.toNatClampNeg x)) e hi z) := sI_mk (fx_lt h (by decide)) (fx_11 h) hi'
theorem an_11 (h : FX D hi) : aNS (mkS h0 B D c e hi z) (B + 11) = some 10 := aN_mk (fx_lt h (by decide)) (fx_11 h)
theorem va_11 (h : FX D hi) {i : Int32} : F_BP_valueAt N (mkS h0 B D c e hi z) (B + 11) i = some (vat 10 (c 11) i, mkS h0 B D c e hi z) := valueAt_mk (fx_lt h (by decide)) (fx_11 h) (by decide)
theorem vs_11 (h : FX D hi) {i x : Int32} : F_BP_setAt N (mkS h0 B D c e hi z) (B + 11) i x = some (mkS h0 B D (up1 c 11 (vset 10 (c 11) i x)) e hi z) := setAt_mk (fx_lt h (by decide)) (fx_11 h) (by decide)
theorem ai_12 (h : FX D hi) {i : Int32} (hi' : pm_in i 56 = true) : aI [0, 6] (mkS h0 B D c e hi z) (B + 12) i = some (c 12 i.toNatClampNeg) := aI_mk (fx_lt h (by decide)) (fx_12 h) hi'
theorem si_12 (h : FX D hi) {i x : Int32} (hi' : pm_in i 56 = true) : sI [0] (mkS h0 B D c e hi z) (B + 12) i x = some (mkS h0 B D (up1 c 12 (upd (c 12) i.toNatClampNeg x)) e hi z) := sI_mk (fx_lt h (by decide)) (fx_12 h) hi'
theorem an_12 (h : FX D hi) : aNS (mkS h0 B D c e hi z) (B + 12) = some 56 := aN_mk (fx_lt h (by decide)) (fx_12 h)
theorem va_12 (h : FX D hi) {i : Int32} : F_BP_valueAt N (mkS h0 B D c e hi z) (B + 12) i = some (vat 56 (c 12) i, mkS h0 B D c e hi z) := valueAt_mk (fx_lt h (by decide)) (fx_12 h) (by decide)
theorem vs_12 (h : FX D hi) {i x : Int32} : F_BP_setAt N (mkS h0 B D c e hi z) (B + 12) i x = some (mkS h0 B D (up1 c 12 (vset 56 (c 12) i x)) e hi z) := setAt_mk (fx_lt h (by decide)) (fx_12 h) (by decide)
theorem ai_13 (h : FX D hi) {i : Int32} (hi' : pm_in i 56 = true) : aI [0, 6] (mkS h0 B D c e hi z) (B + 13) i = some (c 13 i.toNatClampNeg) := aI_mk (fx_lt h (by decide)) (fx_13 h) hi'
theorem si_13 (h : FX D hi) {i x : Int32} (hi' : pm_in i 56 = true) : sI [0] (mkS h0 B D c e hi z) (B + 13) i x = some (mkS h0 B D (up1 c 13 (upd (c 13) i.toNatClampNeg x)) e hi z) := sI_mk (fx_lt h (by decide)) (fx_13 h) hi'
theorem an_13 (h : FX D hi) : aNS (mkS h0 B D c e hi z) (B + 13) = some 56 := aN_mk (fx_lt h (by decide)) (fx_13 h)
theorem va_13 (h : FX D hi) {i : Int32} : F_BP_valueAt N (mkS h0 B D c e hi z) (B + 13) i = some (vat 56 (c 13) i, mkS h0 B D c e hi z) := valueAt_mk (fx_lt h (by decide)) (fx_13 h) (by decide)
theorem vs_13 (h : FX D hi) {i x : Int32} : F_BP_setAt N (mkS h0 B D c e hi z) (B + 13) i x = some (mkS h0 B D (up1 c 13 (vset 56 (c 13) i x)) e hi z) := setAt_mk (fx_lt h (by decide)) (fx_13 h) (by decide)
theorem ai_14 (h : FX D hi) {i : Int32} (hi' : pm_in i 56 = true) : aI [0, 6] (mkS h0 B D c e hi z) (B + 14) i = some (c 14 i.toNatClampNeg) := aI_mk (fx_lt h (by decide)) (fx_14 h) hi'
theorem si_14 (h : FX D hi) {i x : Int32} (hi' : pm_in i 56 = true) : sI [0] (mkS h0 B D c e hi z) (B + 14) i x = some (mkS h0 B D (up1 c 14 (upd (c 14) i.toNatClampNeg x)) e hi z) := sI_mk (fx_lt h (by decide)) (fx_14 h) hi'
theorem an_14 (h : FX D hi) : aNS (mkS h0 B D c e hi z) (B + 14) = some 56 := aN_mk (fx_lt h (by decide)) (fx_14 h)
theorem va_14 (h : FX D hi) {i : Int32} : F_BP_valueAt N (mkS h0 B D c e hi z) (B + 14) i = some (vat 56 (c 14) i, mkS h0 B D c e hi z) := valueAt_mk (fx_lt h (by decide)) (fx_14 h) (by decide)
theorem vs_14 (h : FX D hi) {i x : Int32} : F_BP_setAt N (mkS h0 B D c e hi z) (B + 14) i x = some (mkS h0 B D (up1 c 14 (vset 56 (c 14) i x)) e hi z) := setAt_mk (fx_lt h (by decide)) (fx_14 h) (by decide)
theorem ai_15 (h : FX D hi) {i : Int32} (hi' : pm_in i 10 = true) : aI [0, 6] (mkS h0 B D c e hi z) (B + 15) i = some (c 15 i.toNatClampNeg) := aI_mk (fx_lt h (by decide)) (fx_15 h) hi'
theorem si_15 (h : FX D hi) {i x : Int32} (hi' : pm_in i 10 = true) : sI [0] (mkS h0 B D c e hi z) (B + 15) i x = some (mkS h0 B D (up1 c 15 (upd (c 15) i.toNatClampNeg x)) e hi z) := sI_mk (fx_lt h (by decide)) (fx_15 h) hi'
theorem an_15 (h : FX D hi) : aNS (mkS h0 B D c e hi z) (B + 15) = some 10 := aN_mk (fx_lt h (by decide)) (fx_15 h)
theorem va_15 (h : FX D hi) {i : Int32} : F_BP_valueAt N (mkS h0 B D c e hi z) (B + 15) i = some (vat 10 (c 15) i, mkS h0 B D c e hi z) := valueAt_mk (fx_lt h (by decide)) (fx_15 h) (by decide)
theorem vs_15 (h : FX D hi) {i x : Int32} : F_BP_setAt N (mkS h0 B D c e hi z) (B + 15) i x = some (mkS h0 B D (up1 c 15 (vset 10 (c 15) i x)) e hi z) := setAt_mk (fx_lt h (by decide)) (fx_15 h) (by decide)
theorem ai_16 (h : FX D hi) {i : Int32} (hi' : pm_in i 10 = true) : aI [0, 6] (mkS h0 B D c e hi z) (B + 16) i = some (c 16 i.toNatClampNeg) := aI_mk (fx_lt h (by decide)) (fx_16 h) hi'
theorem si_16 (h : FX D hi) {i x : Int32} (hi' : pm_in i 10 = true) : sI [0] (mkS h0 B D c e hi z) (B + 16) i x = some (mkS h0 B D (up1 c 16 (upd (c 16) i.toNatClampNeg x)) e hi z) := sI_mk (fx_lt h (by decide)) (fx_16 h) hi'
theorem an_16 (h : FX D hi) : aNS (mkS h0 B D c e hi z) (B + 16) = some 10 := aN_mk (fx_lt h (by decide)) (fx_16 h)
theorem va_16 (h : FX D hi) {i : Int32} : F_BP_valueAt N (mkS h0 B D c e hi z) (B + 16) i = some (vat 10 (c 16) i, mkS h0 B D c e hi z) := valueAt_mk (fx_lt h (by decide)) (fx_16 h) (by decide)
theorem vs_16 (h : FX D hi) {i x : Int32} : F_BP_setAt N (mkS h0 B D c e hi z) (B + 16) i x = some (mkS h0 B D (up1 c 16 (vset 10 (c 16) i x)) e hi z) := setAt_mk (fx_lt h (by decide)) (fx_16 h) (by decide)
theorem ai_17 (h : FX D hi) {i : Int32} (hi' : pm_in i 10 = true) : aI [0, 6] (mkS h0 B D c e hi z) (B + 17) i = some (c 17 i.toNatClampNeg) := aI_mk (fx_lt h (by decide)) (fx_17 h) hi'
theorem si_17 (h : FX D hi) {i x : Int32} (hi' : pm_in i 10 = true) : sI [0] (mkS h0 B D c e hi z) (B + 17) i x = some (mkS h0 B D (up1 c 17 (upd (c 17) i.toNatClampNeg x)) e hi z) := sI_mk (fx_lt h (by decide)) (fx_17 h) hi'
theorem an_17 (h : FX D hi) : aNS (mkS h0 B D c e hi z) (B + 17) = some 10 := aN_mk (fx_lt h (by decide)) (fx_17 h)
theorem va_17 (h : FX D hi) {i : Int32} : F_BP_valueAt N (mkS h0 B D c e hi z) (B + 17) i = some (vat 10 (c 17) i, mkS h0 B D c e hi z) := valueAt_mk (fx_lt h (by decide)) (fx_17 h) (by decide)
theorem vs_17 (h : FX D hi) {i x : Int32} : F_BP_setAt N (mkS h0 B D c e hi z) (B + 17) i x = some (mkS h0 B D (up1 c 17 (vset 10 (c 17) i x)) e hi z) := setAt_mk (fx_lt h (by decide)) (fx_17 h) (by decide)
theorem ai_18 (h : FX D hi) {i : Int32} (hi' : pm_in i 10 = true) : aI [0, 6] (mkS h0 B D c e hi z) (B + 18) i = some (c 18 i.toNatClampNeg) := aI_mk (fx_lt h (by decide)) (fx_18 h) hi'
theorem si_18 (h : FX D hi) {i x : Int32} (hi' : pm_in i 10 = true) : sI [0] (mkS h0 B D c e hi z) (B + 18) i x = some (mkS h0 B D (up1 c 18 (upd (c 18) i.toNatClampNeg x)) e hi z) := sI_mk (fx_lt h (by decide)) (fx_18 h) hi'
theorem an_18 (h : FX D hi) : aNS (mkS h0 B D c e hi z) (B + 18) = some 10 := aN_mk (fx_lt h (by decide)) (fx_18 h)
theorem va_18 (h : FX D hi) {i : Int32} : F_BP_valueAt N (mkS h0 B D c e hi z) (B + 18) i = some (vat 10 (c 18) i, mkS h0 B D c e hi z) := valueAt_mk (fx_lt h (by decide)) (fx_18 h) (by decide)
theorem vs_18 (h : FX D hi) {i x : Int32} : F_BP_setAt N (mkS h0 B D c e hi z) (B + 18) i x = some (mkS h0 B D (up1 c 18 (vset 10 (c 18) i x)) e hi z) := setAt_mk (fx_lt h (by decide)) (fx_18 h) (by decide)
theorem ai_19 (h : FX D hi) {i : Int32} (hi' : pm_in i 10 = true) : aI [0, 6] (mkS h0 B D c e hi z) (B + 19) i = some (c 19 i.toNatClampNeg) := aI_mk (fx_lt h (by decide)) (fx_19 h) hi'
theorem si_19 (h : FX D hi) {i x : Int32} (hi' : pm_in i 10 = true) : sI [0] (mkS h0 B D c e hi z) (B + 19) i x = some (mkS h0 B D (up1 c 19 (upd (c 19) i.toNatClampNeg x)) e hi z) := sI_mk (fx_lt h (by decide)) (fx_19 h) hi'
theorem an_19 (h : FX D hi) : aNS (mkS h0 B D c e hi z) (B + 19) = some 10 := aN_mk (fx_lt h (by decide)) (fx_19 h)
theorem va_19 (h : FX D hi) {i : Int32} : F_BP_valueAt N (mkS h0 B D c e hi z) (B + 19) i = some (vat 10 (c 19) i, mkS h0 B D c e hi z) := valueAt_mk (fx_lt h (by decide)) (fx_19 h) (by decide)
theorem vs_19 (h : FX D hi) {i x : Int32} : F_BP_setAt N (mkS h0 B D c e hi z) (B + 19) i x = some (mkS h0 B D (up1 c 19 (vset 10 (c 19) i x)) e hi z) := setAt_mk (fx_lt h (by decide)) (fx_19 h) (by decide)
theorem rc_20 (h : FX D hi) : rcv (mkS h0 B D c e hi z) (B + 20) 4 = true := rcv_mk (fx_lt h (by decide)) (fx_20 h)
theorem rd_20_0 (h : FX D hi) : oI (mkS h0 B D c e hi z) (B + 20) 4 0 = some (c 20 0) := oI_mk (fx_lt h (by decide)) (fx_20 h) (v := 0) rfl
theorem wr_20_0 (h : FX D hi) {w : Int32} : wF (mkS h0 B D c e hi z) (B + 20) 4 0 .int (.int w) = some (mkS h0 B D (up1 c 20 (upd (c 20) 0 w)) e hi z) := wI_mk (fx_lt h (by decide)) (fx_20 h) (v := 0) rfl
theorem rd_20_1 (h : FX D hi) : oR (mkS h0 B D c e hi z) (B + 20) 4 1 = some (some (B + 21)) := oR_mk (fx_lt h (by decide)) (fx_20 h) (v := 21) rfl
theorem rd_20_2 (h : FX D hi) : oR (mkS h0 B D c e hi z) (B + 20) 4 2 = some (some (B + 23)) := oR_mk (fx_lt h (by decide)) (fx_20 h) (v := 23) rfl
theorem rd_20_3 (h : FX D hi) : oR (mkS h0 B D c e hi z) (B + 20) 4 3 = some (some (B + 24)) := oR_mk (fx_lt h (by decide)) (fx_20 h) (v := 24) rfl
theorem rd_20_4 (h : FX D hi) : oR (mkS h0 B D c e hi z) (B + 20) 4 4 = some (some (B + 25)) := oR_mk (fx_lt h (by decide)) (fx_20 h) (v := 25) rfl
theorem rd_20_5 (h : FX D hi) : oR (mkS h0 B D c e hi z) (B + 20) 4 5 = some (some (B + 30)) := oR_mk (fx_lt h (by decide)) (fx_20 h) (v := 30) rfl
theorem rd_20_6 (h : FX D hi) : oR (mkS h0 B D c e hi z) (B + 20) 4 6 = some (some (B + 35)) := oR_mk (fx_lt h (by decide)) (fx_20 h) (v := 35) rfl
theorem rd_20_7 (h : FX D hi) : oR (mkS h0 B D c e hi z) (B + 20) 4 7 = some (some (B + 37)) := oR_mk (fx_lt h (by decide)) (fx_20 h) (v := 37) rfl
theorem rd_20_8 (h : FX D hi) : oR (mkS h0 B D c e hi z) (B + 20) 4 8 = some (some (B + 39)) := oR_mk (fx_lt h (by decide)) (fx_20 h) (v := 39) rfl
theorem rd_20_9 (h : FX D hi) : oR (mkS h0 B D c e hi z) (B + 20) 4 9 = some (some (B + 41)) := oR_mk (fx_lt h (by decide)) (fx_20 h) (v := 41) rfl
theorem rd_20_10 (h : FX D hi) : oR (mkS h0 B D c e hi z) (B + 20) 4 10 = some (some (B + 43)) := oR_mk (fx_lt h (by decide)) (fx_20 h) (v := 43) rfl
theorem rd_20_11 (h : FX D hi) : oR (mkS h0 B D c e hi z) (B + 20) 4 11 = some (some (B + 44)) := oR_mk (fx_lt h (by decide)) (fx_20 h) (v := 44) rfl
theorem rc_21 (h : FX D hi) : rcv (mkS h0 B D c e hi z) (B + 21) 2 = true := rcv_mk (fx_lt h (by decide)) (fx_21 h)
theorem rd_21_0 (h : FX D hi) : oR (mkS h0 B D c e hi z) (B + 21) 2 0 = some (some (B + 22)) := oR_mk (fx_lt h (by decide)) (fx_21 h) (v := 22) rfl
theorem rd_21_1 (h : FX D hi) : oI (mkS h0 B D c e hi z) (B + 21) 2 1 = some (c 21 1) := oI_mk (fx_lt h (by decide)) (fx_21 h) (v := 0) rfl
theorem wr_21_1 (h : FX D hi) {w : Int32} : wF (mkS h0 B D c e hi z) (B + 21) 2 1 .int (.int w) = some (mkS h0 B D (up1 c 21 (upd (c 21) 1 w)) e hi z) := wI_mk (fx_lt h (by decide)) (fx_21 h) (v := 0) rfl
theorem rd_21_2 (h : FX D hi) : oI (mkS h0 B D c e hi z) (B + 21) 2 2 = some (c 21 2) := oI_mk (fx_lt h (by decide)) (fx_21 h) (v := 0) rfl
theorem wr_21_2 (h : FX D hi) {w : Int32} : wF (mkS h0 B D c e hi z) (B + 21) 2 2 .int (.int w) = some (mkS h0 B D (up1 c 21 (upd (c 21) 2 w)) e hi z) := wI_mk (fx_lt h (by decide)) (fx_21 h) (v := 0) rfl
theorem ai_22 (h : FX D hi) {i : Int32} (hi' : pm_in i 35 = true) : aI [0, 6] (mkS h0 B D c e hi z) (B + 22) i = some (c 22 i.toNatClampNeg) := aI_mk (fx_lt h (by decide)) (fx_22 h) hi'
theorem si_22 (h : FX D hi) {i x : Int32} (hi' : pm_in i 35 = true) : sI [0] (mkS h0 B D c e hi z) (B + 22) i x = some (mkS h0 B D (up1 c 22 (upd (c 22) i.toNatClampNeg x)) e hi z) := sI_mk (fx_lt h (by decide)) (fx_22 h) hi'
theorem an_22 (h : FX D hi) : aNS (mkS h0 B D c e hi z) (B + 22) = some 35 := aN_mk (fx_lt h (by decide)) (fx_22 h)
theorem va_22 (h : FX D hi) {i : Int32} : F_BP_valueAt N (mkS h0 B D c e hi z) (B + 22) i = some (vat 35 (c 22) i, mkS h0 B D c e hi z) := valueAt_mk (fx_lt h (by decide)) (fx_22 h) (by decide)
theorem vs_22 (h : FX D hi) {i x : Int32} : F_BP_setAt N (mkS h0 B D c e hi z) (B + 22) i x = some (mkS h0 B D (up1 c 22 (vset 35 (c 22) i x)) e hi z) := setAt_mk (fx_lt h (by decide)) (fx_22 h) (by decide)
theorem ai_23 (h : FX D hi) {i : Int32} (hi' : pm_in i 8 = true) : aI [0, 6] (mkS h0 B D c e hi z) (B + 23) i = some (c 23 i.toNatClampNeg) := aI_mk (fx_lt h (by decide)) (fx_23 h) hi'
theorem si_23 (h : FX D hi) {i x : Int32} (hi' : pm_in i 8 = true) : sI [0] (mkS h0 B D c e hi z) (B + 23) i x = some (mkS h0 B D (up1 c 23 (upd (c 23) i.toNatClampNeg x)) e hi z) := sI_mk (fx_lt h (by decide)) (fx_23 h) hi'
theorem an_23 (h : FX D hi) : aNS (mkS h0 B D c e hi z) (B + 23) = some 8 := aN_mk (fx_lt h (by decide)) (fx_23 h)
theorem va_23 (h : FX D hi) {i : Int32} : F_BP_valueAt N (mkS h0 B D c e hi z) (B + 23) i = some (vat 8 (c 23) i, mkS h0 B D c e hi z) := valueAt_mk (fx_lt h (by decide)) (fx_23 h) (by decide)
theorem vs_23 (h : FX D hi) {i x : Int32} : F_BP_setAt N (mkS h0 B D c e hi z) (B + 23) i x = some (mkS h0 B D (up1 c 23 (vset 8 (c 23) i x)) e hi z) := setAt_mk (fx_lt h (by decide)) (fx_23 h) (by decide)
theorem ai_24 (h : FX D hi) {i : Int32} (hi' : pm_in i 7 = true) : aI [0, 6] (mkS h0 B D c e hi z) (B + 24) i = some (c 24 i.toNatClampNeg) := aI_mk (fx_lt h (by decide)) (fx_24 h) hi'
theorem si_24 (h : FX D hi) {i x : Int32} (hi' : pm_in i 7 = true) : sI [0] (mkS h0 B D c e hi z) (B + 24) i x = some (mkS h0 B D (up1 c 24 (upd (c 24) i.toNatClampNeg x)) e hi z) := sI_mk (fx_lt h (by decide)) (fx_24 h) hi'
theorem an_24 (h : FX D hi) : aNS (mkS h0 B D c e hi z) (B + 24) = some 7 := aN_mk (fx_lt h (by decide)) (fx_24 h)
theorem va_24 (h : FX D hi) {i : Int32} : F_BP_valueAt N (mkS h0 B D c e hi z) (B + 24) i = some (vat 7 (c 24) i, mkS h0 B D c e hi z) := valueAt_mk (fx_lt h (by decide)) (fx_24 h) (by decide)
theorem vs_24 (h : FX D hi) {i x : Int32} : F_BP_setAt N (mkS h0 B D c e hi z) (B + 24) i x = some (mkS h0 B D (up1 c 24 (vset 7 (c 24) i x)) e hi z) := setAt_mk (fx_lt h (by decide)) (fx_24 h) (by decide)
theorem rc_25 (h : FX D hi) : rcv (mkS h0 B D c e hi z) (B + 25) 1 = true := rcv_mk (fx_lt h (by decide)) (fx_25 h)
theorem rd_25_0 (h : FX D hi) : oR (mkS h0 B D c e hi z) (B + 25) 1 0 = some (some (B + 26)) := oR_mk (fx_lt h (by decide)) (fx_25 h) (v := 26) rfl
theorem rd_25_1 (h : FX D hi) : oR (mkS h0 B D c e hi z) (B + 25) 1 1 = some (some (B + 27)) := oR_mk (fx_lt h (by decide)) (fx_25 h) (v := 27) rfl
theorem rd_25_2 (h : FX D hi) : oR (mkS h0 B D c e hi z) (B + 25) 1 2 = some (some (B + 28)) := oR_mk (fx_lt h (by decide)) (fx_25 h) (v := 28) rfl
theorem rd_25_3 (h : FX D hi) : oR (mkS h0 B D c e hi z) (B + 25) 1 3 = some (some (B + 29)) := oR_mk (fx_lt h (by decide)) (fx_25 h) (v := 29) rfl
theorem ai_26 (h : FX D hi) {i : Int32} (hi' : pm_in i 56 = true) : aI [0, 6] (mkS h0 B D c e hi z) (B + 26) i = some (c 26 i.toNatClampNeg) := aI_mk (fx_lt h (by decide)) (fx_26 h) hi'
theorem si_26 (h : FX D hi) {i x : Int32} (hi' : pm_in i 56 = true) : sI [0] (mkS h0 B D c e hi z) (B + 26) i x = some (mkS h0 B D (up1 c 26 (upd (c 26) i.toNatClampNeg x)) e hi z) := sI_mk (fx_lt h (by decide)) (fx_26 h) hi'
theorem an_26 (h : FX D hi) : aNS (mkS h0 B D c e hi z) (B + 26) = some 56 := aN_mk (fx_lt h (by decide)) (fx_26 h)
theorem va_26 (h : FX D hi) {i : Int32} : F_BP_valueAt N (mkS h0 B D c e hi z) (B + 26) i = some (vat 56 (c 26) i, mkS h0 B D c e hi z) := valueAt_mk (fx_lt h (by decide)) (fx_26 h) (by decide)
theorem vs_26 (h : FX D hi) {i x : Int32} : F_BP_setAt N (mkS h0 B D c e hi z) (B + 26) i x = some (mkS h0 B D (up1 c 26 (vset 56 (c 26) i x)) e hi z) := setAt_mk (fx_lt h (by decide)) (fx_26 h) (by decide)
theorem ai_27 (h : FX D hi) {i : Int32} (hi' : pm_in i 56 = true) : aI [0, 6] (mkS h0 B D c e hi z) (B + 27) i = some (c 27 i.toNatClampNeg) := aI_mk (fx_lt h (by decide)) (fx_27 h) hi'
theorem si_27 (h : FX D hi) {i x : Int32} (hi' : pm_in i 56 = true) : sI [0] (mkS h0 B D c e hi z) (B + 27) i x = some (mkS h0 B D (up1 c 27 (upd (c 27) i.toNatClampNeg x)) e hi z) := sI_mk (fx_lt h (by decide)) (fx_27 h) hi'
theorem an_27 (h : FX D hi) : aNS (mkS h0 B D c e hi z) (B + 27) = some 56 := aN_mk (fx_lt h (by decide)) (fx_27 h)
theorem va_27 (h : FX D hi) {i : Int32} : F_BP_valueAt N (mkS h0 B D c e hi z) (B + 27) i = some (vat 56 (c 27) i, mkS h0 B D c e hi z) := valueAt_mk (fx_lt h (by decide)) (fx_27 h) (by decide)
theorem vs_27 (h : FX D hi) {i x : Int32} : F_BP_setAt N (mkS h0 B D c e hi z) (B + 27) i x = some (mkS h0 B D (up1 c 27 (vset 56 (c 27) i x)) e hi z) := setAt_mk (fx_lt h (by decide)) (fx_27 h) (by decide)
theorem ai_28 (h : FX D hi) {i : Int32} (hi' : pm_in i 56 = true) : aI [0, 6] (mkS h0 B D c e hi z) (B + 28) i = some (c 28 i.toNatClampNeg) := aI_mk (fx_lt h (by decide)) (fx_28 h) hi'
theorem si_28 (h : FX D hi) {i x : Int32} (hi' : pm_in i 56 = true) : sI [0] (mkS h0 B D c e hi z) (B + 28) i x = some (mkS h0 B D (up1 c 28 (upd (c 28) i.toNatClampNeg x)) e hi z) := sI_mk (fx_lt h (by decide)) (fx_28 h) hi'
theorem an_28 (h : FX D hi) : aNS (mkS h0 B D c e hi z) (B + 28) = some 56 := aN_mk (fx_lt h (by decide)) (fx_28 h)
theorem va_28 (h : FX D hi) {i : Int32} : F_BP_valueAt N (mkS h0 B D c e hi z) (B + 28) i = some (vat 56 (c 28) i, mkS h0 B D c e hi z) := valueAt_mk (fx_lt h (by decide)) (fx_28 h) (by decide)
theorem vs_28 (h : FX D hi) {i x : Int32} : F_BP_setAt N (mkS h0 B D c e hi z) (B + 28) i x = some (mkS h0 B D (up1 c 28 (vset 56 (c 28) i x)) e hi z) := setAt_mk (fx_lt h (by decide)) (fx_28 h) (by decide)
theorem ai_29 (h : FX D hi) {i : Int32} (hi' : pm_in i 10 = true) : aI [0, 6] (mkS h0 B D c e hi z) (B + 29) i = some (c 29 i.toNatClampNeg) := aI_mk (fx_lt h (by decide)) (fx_29 h) hi'
theorem si_29 (h : FX D hi) {i x : Int32} (hi' : pm_in i 10 = true) : sI [0] (mkS h0 B D c e hi z) (B + 29) i x = some (mkS h0 B D (up1 c 29 (upd (c 29) i.toNatClampNeg x)) e hi z) := sI_mk (fx_lt h (by decide)) (fx_29 h) hi'
theorem an_29 (h : FX D hi) : aNS (mkS h0 B D c e hi z) (B + 29) = some 10 := aN_mk (fx_lt h (by decide)) (fx_29 h)
theorem va_29 (h : FX D hi) {i : Int32} : F_BP_valueAt N (mkS h0 B D c e hi z) (B + 29) i = some (vat 10 (c 29) i, mkS h0 B D c e hi z) := valueAt_mk (fx_lt h (by decide)) (fx_29 h) (by decide)
theorem vs_29 (h : FX D hi) {i x : Int32} : F_BP_setAt N (mkS h0 B D c e hi z) (B + 29) i x = some (mkS h0 B D (up1 c 29 (vset 10 (c 29) i x)) e hi z) := setAt_mk (fx_lt h (by decide)) (fx_29 h) (by decide)
theorem rc_30 (h : FX D hi) : rcv (mkS h0 B D c e hi z) (B + 30) 1 = true := rcv_mk (fx_lt h (by decide)) (fx_30 h)
theorem rd_30_0 (h : FX D hi) : oR (mkS h0 B D c e hi z) (B + 30) 1 0 = some (some (B + 31)) := oR_mk (fx_lt h (by decide)) (fx_30 h) (v := 31) rfl
theorem rd_30_1 (h : FX D hi) : oR (mkS h0 B D c e hi z) (B + 30) 1 1 = some (some (B + 32)) := oR_mk (fx_lt h (by decide)) (fx_30 h) (v := 32) rfl
theorem rd_30_2 (h : FX D hi) : oR (mkS h0 B D c e hi z) (B + 30) 1 2 = some (some (B + 33)) := oR_mk (fx_lt h (by decide)) (fx_30 h) (v := 33) rfl
theorem rd_30_3 (h : FX D hi) : oR (mkS h0 B D c e hi z) (B + 30) 1 3 = some (some (B + 34)) := oR_mk (fx_lt h (by decide)) (fx_30 h) (v := 34) rfl
theorem ai_31 (h : FX D hi) {i : Int32} (hi' : pm_in i 56 = true) : aI [0, 6] (mkS h0 B D c e hi z) (B + 31) i = some (c 31 i.toNatClampNeg) := aI_mk (fx_lt h (by decide)) (fx_31 h) hi'
theorem si_31 (h : FX D hi) {i x : Int32} (hi' : pm_in i 56 = true) : sI [0] (mkS h0 B D c e hi z) (B + 31) i x = some (mkS h0 B D (up1 c 31 (upd (c 31) i.toNatClampNeg x)) e hi z) := sI_mk (fx_lt h (by decide)) (fx_31 h) hi'
theorem an_31 (h : FX D hi) : aNS (mkS h0 B D c e hi z) (B + 31) = some 56 := aN_mk (fx_lt h (by decide)) (fx_31 h)
theorem va_31 (h : FX D hi) {i : Int32} : F_BP_valueAt N (mkS h0 B D c e hi z) (B + 31) i = some (vat 56 (c 31) i, mkS h0 B D c e hi z) := valueAt_mk (fx_lt h (by decide)) (fx_31 h) (by decide)
theorem vs_31 (h : FX D hi) {i x : Int32} : F_BP_setAt N (mkS h0 B D c e hi z) (B + 31) i x = some (mkS h0 B D (up1 c 31 (vset 56 (c 31) i x)) e hi z) := setAt_mk (fx_lt h (by decide)) (fx_31 h) (by decide)
theorem ai_32 (h : FX D hi) {i : Int32} (hi' : pm_in i 56 = true) : aI [0, 6] (mkS h0 B D c e hi z) (B + 32) i = some (c 32 i.toNatClampNeg) := aI_mk (fx_lt h (by decide)) (fx_32 h) hi'
theorem si_32 (h : FX D hi) {i x : Int32} (hi' : pm_in i 56 = true) : sI [0] (mkS h0 B D c e hi z) (B + 32) i x = some (mkS h0 B D (up1 c 32 (upd (c 32) i.toNatClampNeg x)) e hi z) := sI_mk (fx_lt h (by decide)) (fx_32 h) hi'
theorem an_32 (h : FX D hi) : aNS (mkS h0 B D c e hi z) (B + 32) = some 56 := aN_mk (fx_lt h (by decide)) (fx_32 h)
theorem va_32 (h : FX D hi) {i : Int32} : F_BP_valueAt N (mkS h0 B D c e hi z) (B + 32) i = some (vat 56 (c 32) i, mkS h0 B D c e hi z) := valueAt_mk (fx_lt h (by decide)) (fx_32 h) (by decide)
theorem vs_32 (h : FX D hi) {i x : Int32} : F_BP_setAt N (mkS h0 B D c e hi z) (B + 32) i x = some (mkS h0 B D (up1 c 32 (vset 56 (c 32) i x)) e hi z) := setAt_mk (fx_lt h (by decide)) (fx_32 h) (by decide)
theorem ai_33 (h : FX D hi) {i : Int32} (hi' : pm_in i 56 = true) : aI [0, 6] (mkS h0 B D c e hi z) (B + 33) i = some (c 33 i.toNatClampNeg) := aI_mk (fx_lt h (by decide)) (fx_33 h) hi'
theorem si_33 (h : FX D hi) {i x : Int32} (hi' : pm_in i 56 = true) : sI [0] (mkS h0 B D c e hi z) (B + 33) i x = some (mkS h0 B D (up1 c 33 (upd (c 33) i.toNatClampNeg x)) e hi z) := sI_mk (fx_lt h (by decide)) (fx_33 h) hi'
theorem an_33 (h : FX D hi) : aNS (mkS h0 B D c e hi z) (B + 33) = some 56 := aN_mk (fx_lt h (by decide)) (fx_33 h)
theorem va_33 (h : FX D hi) {i : Int32} : F_BP_valueAt N (mkS h0 B D c e hi z) (B + 33) i = some (vat 56 (c 33) i, mkS h0 B D c e hi z) := valueAt_mk (fx_lt h (by decide)) (fx_33 h) (by decide)
theorem vs_33 (h : FX D hi) {i x : Int32} : F_BP_setAt N (mkS h0 B D c e hi z) (B + 33) i x = some (mkS h0 B D (up1 c 33 (vset 56 (c 33) i x)) e hi z) := setAt_mk (fx_lt h (by decide)) (fx_33 h) (by decide)
theorem ai_34 (h : FX D hi) {i : Int32} (hi' : pm_in i 10 = true) : aI [0, 6] (mkS h0 B D c e hi z) (B + 34) i = some (c 34 i.toNatClampNeg) := aI_mk (fx_lt h (by decide)) (fx_34 h) hi'
theorem si_34 (h : FX D hi) {i x : Int32} (hi' : pm_in i 10 = true) : sI [0] (mkS h0 B D c e hi z) (B + 34) i x = some (mkS h0 B D (up1 c 34 (upd (c 34) i.toNatClampNeg x)) e hi z) := sI_mk (fx_lt h (by decide)) (fx_34 h) hi'
theorem an_34 (h : FX D hi) : aNS (mkS h0 B D c e hi z) (B + 34) = some 10 := aN_mk (fx_lt h (by decide)) (fx_34 h)
theorem va_34 (h : FX D hi) {i : Int32} : F_BP_valueAt N (mkS h0 B D c e hi z) (B + 34) i = some (vat 10 (c 34) i, mkS h0 B D c e hi z) := valueAt_mk (fx_lt h (by decide)) (fx_34 h) (by decide)
theorem vs_34 (h : FX D hi) {i x : Int32} : F_BP_setAt N (mkS h0 B D c e hi z) (B + 34) i x = some (mkS h0 B D (up1 c 34 (vset 10 (c 34) i x)) e hi z) := setAt_mk (fx_lt h (by decide)) (fx_34 h) (by decide)
theorem rc_35 (h : FX D hi) : rcv (mkS h0 B D c e hi z) (B + 35) 2 = true := rcv_mk (fx_lt h (by decide)) (fx_35 h)
theorem rd_35_0 (h : FX D hi) : oR (mkS h0 B D c e hi z) (B + 35) 2 0 = some (some (B + 36)) := oR_mk (fx_lt h (by decide)) (fx_35 h) (v := 36) rfl
theorem rd_35_1 (h : FX D hi) : oI (mkS h0 B D c e hi z) (B + 35) 2 1 = some (c 35 1) := oI_mk (fx_lt h (by decide)) (fx_35 h) (v := 0) rfl
theorem wr_35_1 (h : FX D hi) {w : Int32} : wF (mkS h0 B D c e hi z) (B + 35) 2 1 .int (.int w) = some (mkS h0 B D (up1 c 35 (upd (c 35) 1 w)) e hi z) := wI_mk (fx_lt h (by decide)) (fx_35 h) (v := 0) rfl
theorem rd_35_2 (h : FX D hi) : oI (mkS h0 B D c e hi z) (B + 35) 2 2 = some (c 35 2) := oI_mk (fx_lt h (by decide)) (fx_35 h) (v := 0) rfl
theorem wr_35_2 (h : FX D hi) {w : Int32} : wF (mkS h0 B D c e hi z) (B + 35) 2 2 .int (.int w) = some (mkS h0 B D (up1 c 35 (upd (c 35) 2 w)) e hi z) := wI_mk (fx_lt h (by decide)) (fx_35 h) (v := 0) rfl
theorem ai_36 (h : FX D hi) {i : Int32} (hi' : pm_in i 30 = true) : aI [0, 6] (mkS h0 B D c e hi z) (B + 36) i = some (c 36 i.toNatClampNeg) := aI_mk (fx_lt h (by decide)) (fx_36 h) hi'
theorem si_36 (h : FX D hi) {i x : Int32} (hi' : pm_in i 30 = true) : sI [0] (mkS h0 B D c e hi z) (B + 36) i x = some (mkS h0 B D (up1 c 36 (upd (c 36) i.toNatClampNeg x)) e hi z) := sI_mk (fx_lt h (by decide)) (fx_36 h) hi'
theorem an_36 (h : FX D hi) : aNS (mkS h0 B D c e hi z) (B + 36) = some 30 := aN_mk (fx_lt h (by decide)) (fx_36 h)
theorem va_36 (h : FX D hi) {i : Int32} : F_BP_valueAt N (mkS h0 B D c e hi z) (B + 36) i = some (vat 30 (c 36) i, mkS h0 B D c e hi z) := valueAt_mk (fx_lt h (by decide)) (fx_36 h) (by decide)
theorem vs_36 (h : FX D hi) {i x : Int32} : F_BP_setAt N (mkS h0 B D c e hi z) (B + 36) i x = some (mkS h0 B D (up1 c 36 (vset 30 (c 36) i x)) e hi z) := setAt_mk (fx_lt h (by decide)) (fx_36 h) (by decide)
theorem rc_37 (h : FX D hi) : rcv (mkS h0 B D c e hi z) (B + 37) 2 = true := rcv_mk (fx_lt h (by decide)) (fx_37 h)
theorem rd_37_0 (h : FX D hi) : oR (mkS h0 B D c e hi z) (B + 37) 2 0 = some (some (B + 38)) := oR_mk (fx_lt h (by decide)) (fx_37 h) (v := 38) rfl
theorem rd_37_1 (h : FX D hi) : oI (mkS h0 B D c e hi z) (B + 37) 2 1 = some (c 37 1) := oI_mk (fx_lt h (by decide)) (fx_37 h) (v := 0) rfl
theorem wr_37_1 (h : FX D hi) {w : Int32} : wF (mkS h0 B D c e hi z) (B + 37) 2 1 .int (.int w) = some (mkS h0 B D (up1 c 37 (upd (c 37) 1 w)) e hi z) := wI_mk (fx_lt h (by decide)) (fx_37 h) (v := 0) rfl
theorem rd_37_2 (h : FX D hi) : oI (mkS h0 B D c e hi z) (B + 37) 2 2 = some (c 37 2) := oI_mk (fx_lt h (by decide)) (fx_37 h) (v := 0) rfl
theorem wr_37_2 (h : FX D hi) {w : Int32} : wF (mkS h0 B D c e hi z) (B + 37) 2 2 .int (.int w) = some (mkS h0 B D (up1 c 37 (upd (c 37) 2 w)) e hi z) := wI_mk (fx_lt h (by decide)) (fx_37 h) (v := 0) rfl
theorem ai_38 (h : FX D hi) {i : Int32} (hi' : pm_in i 50 = true) : aI [0, 6] (mkS h0 B D c e hi z) (B + 38) i = some (c 38 i.toNatClampNeg) := aI_mk (fx_lt h (by decide)) (fx_38 h) hi'
theorem si_38 (h : FX D hi) {i x : Int32} (hi' : pm_in i 50 = true) : sI [0] (mkS h0 B D c e hi z) (B + 38) i x = some (mkS h0 B D (up1 c 38 (upd (c 38) i.toNatClampNeg x)) e hi z) := sI_mk (fx_lt h (by decide)) (fx_38 h) hi'
theorem an_38 (h : FX D hi) : aNS (mkS h0 B D c e hi z) (B + 38) = some 50 := aN_mk (fx_lt h (by decide)) (fx_38 h)
theorem va_38 (h : FX D hi) {i : Int32} : F_BP_valueAt N (mkS h0 B D c e hi z) (B + 38) i = some (vat 50 (c 38) i, mkS h0 B D c e hi z) := valueAt_mk (fx_lt h (by decide)) (fx_38 h) (by decide)
theorem vs_38 (h : FX D hi) {i x : Int32} : F_BP_setAt N (mkS h0 B D c e hi z) (B + 38) i x = some (mkS h0 B D (up1 c 38 (vset 50 (c 38) i x)) e hi z) := setAt_mk (fx_lt h (by decide)) (fx_38 h) (by decide)
theorem rc_39 (h : FX D hi) : rcv (mkS h0 B D c e hi z) (B + 39) 2 = true := rcv_mk (fx_lt h (by decide)) (fx_39 h)
theorem rd_39_0 (h : FX D hi) : oR (mkS h0 B D c e hi z) (B + 39) 2 0 = some (some (B + 40)) := oR_mk (fx_lt h (by decide)) (fx_39 h) (v := 40) rfl
theorem rd_39_1 (h : FX D hi) : oI (mkS h0 B D c e hi z) (B + 39) 2 1 = some (c 39 1) := oI_mk (fx_lt h (by decide)) (fx_39 h) (v := 0) rfl
theorem wr_39_1 (h : FX D hi) {w : Int32} : wF (mkS h0 B D c e hi z) (B + 39) 2 1 .int (.int w) = some (mkS h0 B D (up1 c 39 (upd (c 39) 1 w)) e hi z) := wI_mk (fx_lt h (by decide)) (fx_39 h) (v := 0) rfl
theorem rd_39_2 (h : FX D hi) : oI (mkS h0 B D c e hi z) (B + 39) 2 2 = some (c 39 2) := oI_mk (fx_lt h (by decide)) (fx_39 h) (v := 0) rfl
theorem wr_39_2 (h : FX D hi) {w : Int32} : wF (mkS h0 B D c e hi z) (B + 39) 2 2 .int (.int w) = some (mkS h0 B D (up1 c 39 (upd (c 39) 2 w)) e hi z) := wI_mk (fx_lt h (by decide)) (fx_39 h) (v := 0) rfl
theorem ai_40 (h : FX D hi) {i : Int32} (hi' : pm_in i 60 = true) : aI [0, 6] (mkS h0 B D c e hi z) (B + 40) i = some (c 40 i.toNatClampNeg) := aI_mk (fx_lt h (by decide)) (fx_40 h) hi'
theorem si_40 (h : FX D hi) {i x : Int32} (hi' : pm_in i 60 = true) : sI [0] (mkS h0 B D c e hi z) (B + 40) i x = some (mkS h0 B D (up1 c 40 (upd (c 40) i.toNatClampNeg x)) e hi z) := sI_mk (fx_lt h (by decide)) (fx_40 h) hi'
theorem an_40 (h : FX D hi) : aNS (mkS h0 B D c e hi z) (B + 40) = some 60 := aN_mk (fx_lt h (by decide)) (fx_40 h)
theorem va_40 (h : FX D hi) {i : Int32} : F_BP_valueAt N (mkS h0 B D c e hi z) (B + 40) i = some (vat 60 (c 40) i, mkS h0 B D c e hi z) := valueAt_mk (fx_lt h (by decide)) (fx_40 h) (by decide)
theorem vs_40 (h : FX D hi) {i x : Int32} : F_BP_setAt N (mkS h0 B D c e hi z) (B + 40) i x = some (mkS h0 B D (up1 c 40 (vset 60 (c 40) i x)) e hi z) := setAt_mk (fx_lt h (by decide)) (fx_40 h) (by decide)
theorem rc_41 (h : FX D hi) : rcv (mkS h0 B D c e hi z) (B + 41) 2 = true := rcv_mk (fx_lt h (by decide)) (fx_41 h)
theorem rd_41_0 (h : FX D hi) : oR (mkS h0 B D c e hi z) (B + 41) 2 0 = some (some (B + 42)) := oR_mk (fx_lt h (by decide)) (fx_41 h) (v := 42) rfl
theorem rd_41_1 (h : FX D hi) : oI (mkS h0 B D c e hi z) (B + 41) 2 1 = some (c 41 1) := oI_mk (fx_lt h (by decide)) (fx_41 h) (v := 0) rfl
theorem wr_41_1 (h : FX D hi) {w : Int32} : wF (mkS h0 B D c e hi z) (B + 41) 2 1 .int (.int w) = some (mkS h0 B D (up1 c 41 (upd (c 41) 1 w)) e hi z) := wI_mk (fx_lt h (by decide)) (fx_41 h) (v := 0) rfl
theorem rd_41_2 (h : FX D hi) : oI (mkS h0 B D c e hi z) (B + 41) 2 2 = some (c 41 2) := oI_mk (fx_lt h (by decide)) (fx_41 h) (v := 0) rfl
theorem wr_41_2 (h : FX D hi) {w : Int32} : wF (mkS h0 B D c e hi z) (B + 41) 2 2 .int (.int w) = some (mkS h0 B D (up1 c 41 (upd (c 41) 2 w)) e hi z) := wI_mk (fx_lt h (by decide)) (fx_41 h) (v := 0) rfl
theorem ai_42 (h : FX D hi) {i : Int32} (hi' : pm_in i 120 = true) : aI [0, 6] (mkS h0 B D c e hi z) (B + 42) i = some (c 42 i.toNatClampNeg) := aI_mk (fx_lt h (by decide)) (fx_42 h) hi'
theorem si_42 (h : FX D hi) {i x : Int32} (hi' : pm_in i 120 = true) : sI [0] (mkS h0 B D c e hi z) (B + 42) i x = some (mkS h0 B D (up1 c 42 (upd (c 42) i.toNatClampNeg x)) e hi z) := sI_mk (fx_lt h (by decide)) (fx_42 h) hi'
theorem an_42 (h : FX D hi) : aNS (mkS h0 B D c e hi z) (B + 42) = some 120 := aN_mk (fx_lt h (by decide)) (fx_42 h)
theorem va_42 (h : FX D hi) {i : Int32} : F_BP_valueAt N (mkS h0 B D c e hi z) (B + 42) i = some (vat 120 (c 42) i, mkS h0 B D c e hi z) := valueAt_mk (fx_lt h (by decide)) (fx_42 h) (by decide)
theorem vs_42 (h : FX D hi) {i x : Int32} : F_BP_setAt N (mkS h0 B D c e hi z) (B + 42) i x = some (mkS h0 B D (up1 c 42 (vset 120 (c 42) i x)) e hi z) := setAt_mk (fx_lt h (by decide)) (fx_42 h) (by decide)
theorem ai_43 (h : FX D hi) {i : Int32} (hi' : pm_in i 10 = true) : aI [0, 6] (mkS h0 B D c e hi z) (B + 43) i = some (c 43 i.toNatClampNeg) := aI_mk (fx_lt h (by decide)) (fx_43 h) hi'
theorem si_43 (h : FX D hi) {i x : Int32} (hi' : pm_in i 10 = true) : sI [0] (mkS h0 B D c e hi z) (B + 43) i x = some (mkS h0 B D (up1 c 43 (upd (c 43) i.toNatClampNeg x)) e hi z) := sI_mk (fx_lt h (by decide)) (fx_43 h) hi'
theorem an_43 (h : FX D hi) : aNS (mkS h0 B D c e hi z) (B + 43) = some 10 := aN_mk (fx_lt h (by decide)) (fx_43 h)
theorem va_43 (h : FX D hi) {i : Int32} : F_BP_valueAt N (mkS h0 B D c e hi z) (B + 43) i = some (vat 10 (c 43) i, mkS h0 B D c e hi z) := valueAt_mk (fx_lt h (by decide)) (fx_43 h) (by decide)
theorem vs_43 (h : FX D hi) {i x : Int32} : F_BP_setAt N (mkS h0 B D c e hi z) (B + 43) i x = some (mkS h0 B D (up1 c 43 (vset 10 (c 43) i x)) e hi z) := setAt_mk (fx_lt h (by decide)) (fx_43 h) (by decide)
theorem rc_44 (h : FX D hi) : rcv (mkS h0 B D c e hi z) (B + 44) 5 = true := rcv_mk (fx_lt h (by decide)) (fx_44 h)
theorem rd_44_0 (h : FX D hi) : oR (mkS h0 B D c e hi z) (B + 44) 5 0 = some (some (B + 45)) := oR_mk (fx_lt h (by decide)) (fx_44 h) (v := 45) rfl
theorem rd_44_1 (h : FX D hi) : oR (mkS h0 B D c e hi z) (B + 44) 5 1 = some (some (B + 46)) := oR_mk (fx_lt h (by decide)) (fx_44 h) (v := 46) rfl
theorem rd_44_2 (h : FX D hi) : oI (mkS h0 B D c e hi z) (B + 44) 5 2 = some (c 44 2) := oI_mk (fx_lt h (by decide)) (fx_44 h) (v := 0) rfl
theorem wr_44_2 (h : FX D hi) {w : Int32} : wF (mkS h0 B D c e hi z) (B + 44) 5 2 .int (.int w) = some (mkS h0 B D (up1 c 44 (upd (c 44) 2 w)) e hi z) := wI_mk (fx_lt h (by decide)) (fx_44 h) (v := 0) rfl
theorem rd_44_3 (h : FX D hi) : oI (mkS h0 B D c e hi z) (B + 44) 5 3 = some (c 44 3) := oI_mk (fx_lt h (by decide)) (fx_44 h) (v := 0) rfl
theorem wr_44_3 (h : FX D hi) {w : Int32} : wF (mkS h0 B D c e hi z) (B + 44) 5 3 .int (.int w) = some (mkS h0 B D (up1 c 44 (upd (c 44) 3 w)) e hi z) := wI_mk (fx_lt h (by decide)) (fx_44 h) (v := 0) rfl
theorem rd_44_4 (h : FX D hi) : oI (mkS h0 B D c e hi z) (B + 44) 5 4 = some (c 44 4) := oI_mk (fx_lt h (by decide)) (fx_44 h) (v := 0) rfl
theorem wr_44_4 (h : FX D hi) {w : Int32} (hw : w = 0 ∨ w = 1) : wF (mkS h0 B D c e hi z) (B + 44) 5 4 .boolean (.int w) = some (mkS h0 B D (up1 c 44 (upd (c 44) 4 w)) e hi z) := wZ_mk (fx_lt h (by decide)) (fx_44 h) (v := 0) rfl hw
theorem ai_46 (h : FX D hi) {i : Int32} (hi' : pm_in i 1024 = true) : aI [0, 6] (mkS h0 B D c e hi z) (B + 46) i = some (c 46 i.toNatClampNeg) := aI_mk (fx_lt h (by decide)) (fx_46 h) hi'
theorem si_46 (h : FX D hi) {i x : Int32} (hi' : pm_in i 1024 = true) : sI [0] (mkS h0 B D c e hi z) (B + 46) i x = some (mkS h0 B D (up1 c 46 (upd (c 46) i.toNatClampNeg x)) e hi z) := sI_mk (fx_lt h (by decide)) (fx_46 h) hi'
theorem an_46 (h : FX D hi) : aNS (mkS h0 B D c e hi z) (B + 46) = some 1024 := aN_mk (fx_lt h (by decide)) (fx_46 h)
theorem va_46 (h : FX D hi) {i : Int32} : F_BP_valueAt N (mkS h0 B D c e hi z) (B + 46) i = some (vat 1024 (c 46) i, mkS h0 B D c e hi z) := valueAt_mk (fx_lt h (by decide)) (fx_46 h) (by decide)
theorem vs_46 (h : FX D hi) {i x : Int32} : F_BP_setAt N (mkS h0 B D c e hi z) (B + 46) i x = some (mkS h0 B D (up1 c 46 (vset 1024 (c 46) i x)) e hi z) := setAt_mk (fx_lt h (by decide)) (fx_46 h) (by decide)
theorem rc_47 (h : FX D hi) : rcv (mkS h0 B D c e hi z) (B + 47) 8 = true := rcv_mk (fx_lt h (by decide)) (fx_47 h)
theorem rd_47_0 (h : FX D hi) : oR (mkS h0 B D c e hi z) (B + 47) 8 0 = some (some (B + 48)) := oR_mk (fx_lt h (by decide)) (fx_47 h) (v := 48) rfl
theorem rd_47_1 (h : FX D hi) : oR (mkS h0 B D c e hi z) (B + 47) 8 1 = some (some (B + 49)) := oR_mk (fx_lt h (by decide)) (fx_47 h) (v := 49) rfl
theorem rd_47_2 (h : FX D hi) : oR (mkS h0 B D c e hi z) (B + 47) 8 2 = some (some (B + 50)) := oR_mk (fx_lt h (by decide)) (fx_47 h) (v := 50) rfl
theorem rd_47_3 (h : FX D hi) : oR (mkS h0 B D c e hi z) (B + 47) 8 3 = some (some (B + 51)) := oR_mk (fx_lt h (by decide)) (fx_47 h) (v := 51) rfl
theorem rd_47_4 (h : FX D hi) : oI (mkS h0 B D c e hi z) (B + 47) 8 4 = some (c 47 4) := oI_mk (fx_lt h (by decide)) (fx_47 h) (v := 0) rfl
theorem wr_47_4 (h : FX D hi) {w : Int32} : wF (mkS h0 B D c e hi z) (B + 47) 8 4 .int (.int w) = some (mkS h0 B D (up1 c 47 (upd (c 47) 4 w)) e hi z) := wI_mk (fx_lt h (by decide)) (fx_47 h) (v := 0) rfl
theorem ai_48 (h : FX D hi) {i : Int32} (hi' : pm_in i 56 = true) : aI [0, 6] (mkS h0 B D c e hi z) (B + 48) i = some (c 48 i.toNatClampNeg) := aI_mk (fx_lt h (by decide)) (fx_48 h) hi'
theorem si_48 (h : FX D hi) {i x : Int32} (hi' : pm_in i 56 = true) : sI [0] (mkS h0 B D c e hi z) (B + 48) i x = some (mkS h0 B D (up1 c 48 (upd (c 48) i.toNatClampNeg x)) e hi z) := sI_mk (fx_lt h (by decide)) (fx_48 h) hi'
theorem an_48 (h : FX D hi) : aNS (mkS h0 B D c e hi z) (B + 48) = some 56 := aN_mk (fx_lt h (by decide)) (fx_48 h)
theorem va_48 (h : FX D hi) {i : Int32} : F_BP_valueAt N (mkS h0 B D c e hi z) (B + 48) i = some (vat 56 (c 48) i, mkS h0 B D c e hi z) := valueAt_mk (fx_lt h (by decide)) (fx_48 h) (by decide)
theorem vs_48 (h : FX D hi) {i x : Int32} : F_BP_setAt N (mkS h0 B D c e hi z) (B + 48) i x = some (mkS h0 B D (up1 c 48 (vset 56 (c 48) i x)) e hi z) := setAt_mk (fx_lt h (by decide)) (fx_48 h) (by decide)
theorem ai_49 (h : FX D hi) {i : Int32} (hi' : pm_in i 616 = true) : aI [0, 6] (mkS h0 B D c e hi z) (B + 49) i = some (c 49 i.toNatClampNeg) := aI_mk (fx_lt h (by decide)) (fx_49 h) hi'
theorem si_49 (h : FX D hi) {i x : Int32} (hi' : pm_in i 616 = true) : sI [0] (mkS h0 B D c e hi z) (B + 49) i x = some (mkS h0 B D (up1 c 49 (upd (c 49) i.toNatClampNeg x)) e hi z) := sI_mk (fx_lt h (by decide)) (fx_49 h) hi'
theorem an_49 (h : FX D hi) : aNS (mkS h0 B D c e hi z) (B + 49) = some 616 := aN_mk (fx_lt h (by decide)) (fx_49 h)
theorem va_49 (h : FX D hi) {i : Int32} : F_BP_valueAt N (mkS h0 B D c e hi z) (B + 49) i = some (vat 616 (c 49) i, mkS h0 B D c e hi z) := valueAt_mk (fx_lt h (by decide)) (fx_49 h) (by decide)
theorem vs_49 (h : FX D hi) {i x : Int32} : F_BP_setAt N (mkS h0 B D c e hi z) (B + 49) i x = some (mkS h0 B D (up1 c 49 (vset 616 (c 49) i x)) e hi z) := setAt_mk (fx_lt h (by decide)) (fx_49 h) (by decide)
theorem ai_50 (h : FX D hi) {i : Int32} (hi' : pm_in i 7 = true) : aI [0, 6] (mkS h0 B D c e hi z) (B + 50) i = some (c 50 i.toNatClampNeg) := aI_mk (fx_lt h (by decide)) (fx_50 h) hi'
theorem si_50 (h : FX D hi) {i x : Int32} (hi' : pm_in i 7 = true) : sI [0] (mkS h0 B D c e hi z) (B + 50) i x = some (mkS h0 B D (up1 c 50 (upd (c 50) i.toNatClampNeg x)) e hi z) := sI_mk (fx_lt h (by decide)) (fx_50 h) hi'
theorem an_50 (h : FX D hi) : aNS (mkS h0 B D c e hi z) (B + 50) = some 7 := aN_mk (fx_lt h (by decide)) (fx_50 h)
theorem va_50 (h : FX D hi) {i : Int32} : F_BP_valueAt N (mkS h0 B D c e hi z) (B + 50) i = some (vat 7 (c 50) i, mkS h0 B D c e hi z) := valueAt_mk (fx_lt h (by decide)) (fx_50 h) (by decide)
theorem vs_50 (h : FX D hi) {i x : Int32} : F_BP_setAt N (mkS h0 B D c e hi z) (B + 50) i x = some (mkS h0 B D (up1 c 50 (vset 7 (c 50) i x)) e hi z) := setAt_mk (fx_lt h (by decide)) (fx_50 h) (by decide)
theorem ai_51 (h : FX D hi) {i : Int32} (hi' : pm_in i 7 = true) : aI [0, 6] (mkS h0 B D c e hi z) (B + 51) i = some (c 51 i.toNatClampNeg) := aI_mk (fx_lt h (by decide)) (fx_51 h) hi'
theorem si_51 (h : FX D hi) {i x : Int32} (hi' : pm_in i 7 = true) : sI [0] (mkS h0 B D c e hi z) (B + 51) i x = some (mkS h0 B D (up1 c 51 (upd (c 51) i.toNatClampNeg x)) e hi z) := sI_mk (fx_lt h (by decide)) (fx_51 h) hi'
theorem an_51 (h : FX D hi) : aNS (mkS h0 B D c e hi z) (B + 51) = some 7 := aN_mk (fx_lt h (by decide)) (fx_51 h)
theorem va_51 (h : FX D hi) {i : Int32} : F_BP_valueAt N (mkS h0 B D c e hi z) (B + 51) i = some (vat 7 (c 51) i, mkS h0 B D c e hi z) := valueAt_mk (fx_lt h (by decide)) (fx_51 h) (by decide)
theorem vs_51 (h : FX D hi) {i x : Int32} : F_BP_setAt N (mkS h0 B D c e hi z) (B + 51) i x = some (mkS h0 B D (up1 c 51 (vset 7 (c 51) i x)) e hi z) := setAt_mk (fx_lt h (by decide)) (fx_51 h) (by decide)
theorem aj_52 (h : FX D hi) {i : Int32} (hi' : pm_in i 10 = true) : aJ (mkS h0 B D c e hi z) (B + 52) i = some (e 52 i.toNatClampNeg) := aJ_mk (fx_lt h (by decide)) (fx_52 h) hi'
theorem sj_52 (h : FX D hi) {i : Int32} {x : Int64} (hi' : pm_in i 10 = true) : sJ (mkS h0 B D c e hi z) (B + 52) i x = some (mkS h0 B D c (up1 e 52 (vp_updL (e 52) i.toNatClampNeg x)) hi z) := sJ_mk (fx_lt h (by decide)) (fx_52 h) hi'
theorem ai_53 (h : FX D hi) {i : Int32} (hi' : pm_in i 2776 = true) : aI [0, 6] (mkS h0 B D c e hi z) (B + 53) i = some (c 53 i.toNatClampNeg) := aI_mk (fx_lt h (by decide)) (fx_53 h) hi'
theorem si_53 (h : FX D hi) {i x : Int32} (hi' : pm_in i 2776 = true) : sI [0] (mkS h0 B D c e hi z) (B + 53) i x = some (mkS h0 B D (up1 c 53 (upd (c 53) i.toNatClampNeg x)) e hi z) := sI_mk (fx_lt h (by decide)) (fx_53 h) hi'
theorem an_53 (h : FX D hi) : aNS (mkS h0 B D c e hi z) (B + 53) = some 2776 := aN_mk (fx_lt h (by decide)) (fx_53 h)
theorem va_53 (h : FX D hi) {i : Int32} : F_BP_valueAt N (mkS h0 B D c e hi z) (B + 53) i = some (vat 2776 (c 53) i, mkS h0 B D c e hi z) := valueAt_mk (fx_lt h (by decide)) (fx_53 h) (by decide)
theorem vs_53 (h : FX D hi) {i x : Int32} : F_BP_setAt N (mkS h0 B D c e hi z) (B + 53) i x = some (mkS h0 B D (up1 c 53 (vset 2776 (c 53) i x)) e hi z) := setAt_mk (fx_lt h (by decide)) (fx_53 h) (by decide)
theorem rc_54 (h : FX D hi) : rcv (mkS h0 B D c e hi z) (B + 54) 3 = true := rcv_mk (fx_lt h (by decide)) (fx_54 h)
theorem rd_54_0 (h : FX D hi) : oR (mkS h0 B D c e hi z) (B + 54) 3 0 = some (some (B + 55)) := oR_mk (fx_lt h (by decide)) (fx_54 h) (v := 55) rfl
theorem rd_54_1 (h : FX D hi) : oR (mkS h0 B D c e hi z) (B + 54) 3 1 = some (some (B + 56)) := oR_mk (fx_lt h (by decide)) (fx_54 h) (v := 56) rfl
theorem rd_54_2 (h : FX D hi) : oR (mkS h0 B D c e hi z) (B + 54) 3 2 = some (some (B + 57)) := oR_mk (fx_lt h (by decide)) (fx_54 h) (v := 57) rfl
theorem rd_54_3 (h : FX D hi) : oI (mkS h0 B D c e hi z) (B + 54) 3 3 = some (c 54 3) := oI_mk (fx_lt h (by decide)) (fx_54 h) (v := 0) rfl
theorem wr_54_3 (h : FX D hi) {w : Int32} : wF (mkS h0 B D c e hi z) (B + 54) 3 3 .int (.int w) = some (mkS h0 B D (up1 c 54 (upd (c 54) 3 w)) e hi z) := wI_mk (fx_lt h (by decide)) (fx_54 h) (v := 0) rfl
theorem rd_54_4 (h : FX D hi) : oI (mkS h0 B D c e hi z) (B + 54) 3 4 = some (c 54 4) := oI_mk (fx_lt h (by decide)) (fx_54 h) (v := 0) rfl
theorem wr_54_4 (h : FX D hi) {w : Int32} : wF (mkS h0 B D c e hi z) (B + 54) 3 4 .int (.int w) = some (mkS h0 B D (up1 c 54 (upd (c 54) 4 w)) e hi z) := wI_mk (fx_lt h (by decide)) (fx_54 h) (v := 0) rfl
theorem rd_54_5 (h : FX D hi) : oI (mkS h0 B D c e hi z) (B + 54) 3 5 = some (c 54 5) := oI_mk (fx_lt h (by decide)) (fx_54 h) (v := 0) rfl
theorem wr_54_5 (h : FX D hi) {w : Int32} : wF (mkS h0 B D c e hi z) (B + 54) 3 5 .int (.int w) = some (mkS h0 B D (up1 c 54 (upd (c 54) 5 w)) e hi z) := wI_mk (fx_lt h (by decide)) (fx_54 h) (v := 0) rfl
theorem ai_55 (h : FX D hi) {i : Int32} (hi' : pm_in i 10 = true) : aI [0, 6] (mkS h0 B D c e hi z) (B + 55) i = some (c 55 i.toNatClampNeg) := aI_mk (fx_lt h (by decide)) (fx_55 h) hi'
theorem si_55 (h : FX D hi) {i x : Int32} (hi' : pm_in i 10 = true) : sI [0] (mkS h0 B D c e hi z) (B + 55) i x = some (mkS h0 B D (up1 c 55 (upd (c 55) i.toNatClampNeg x)) e hi z) := sI_mk (fx_lt h (by decide)) (fx_55 h) hi'
theorem an_55 (h : FX D hi) : aNS (mkS h0 B D c e hi z) (B + 55) = some 10 := aN_mk (fx_lt h (by decide)) (fx_55 h)
theorem va_55 (h : FX D hi) {i : Int32} : F_BP_valueAt N (mkS h0 B D c e hi z) (B + 55) i = some (vat 10 (c 55) i, mkS h0 B D c e hi z) := valueAt_mk (fx_lt h (by decide)) (fx_55 h) (by decide)
theorem vs_55 (h : FX D hi) {i x : Int32} : F_BP_setAt N (mkS h0 B D c e hi z) (B + 55) i x = some (mkS h0 B D (up1 c 55 (vset 10 (c 55) i x)) e hi z) := setAt_mk (fx_lt h (by decide)) (fx_55 h) (by decide)
theorem ai_56 (h : FX D hi) {i : Int32} (hi' : pm_in i 10 = true) : aI [0, 6] (mkS h0 B D c e hi z) (B + 56) i = some (c 56 i.toNatClampNeg) := aI_mk (fx_lt h (by decide)) (fx_56 h) hi'
theorem si_56 (h : FX D hi) {i x : Int32} (hi' : pm_in i 10 = true) : sI [0] (mkS h0 B D c e hi z) (B + 56) i x = some (mkS h0 B D (up1 c 56 (upd (c 56) i.toNatClampNeg x)) e hi z) := sI_mk (fx_lt h (by decide)) (fx_56 h) hi'
theorem an_56 (h : FX D hi) : aNS (mkS h0 B D c e hi z) (B + 56) = some 10 := aN_mk (fx_lt h (by decide)) (fx_56 h)
theorem va_56 (h : FX D hi) {i : Int32} : F_BP_valueAt N (mkS h0 B D c e hi z) (B + 56) i = some (vat 10 (c 56) i, mkS h0 B D c e hi z) := valueAt_mk (fx_lt h (by decide)) (fx_56 h) (by decide)
theorem vs_56 (h : FX D hi) {i x : Int32} : F_BP_setAt N (mkS h0 B D c e hi z) (B + 56) i x = some (mkS h0 B D (up1 c 56 (vset 10 (c 56) i x)) e hi z) := setAt_mk (fx_lt h (by decide)) (fx_56 h) (by decide)
theorem ai_57 (h : FX D hi) {i : Int32} (hi' : pm_in i 20 = true) : aI [0, 6] (mkS h0 B D c e hi z) (B + 57) i = some (c 57 i.toNatClampNeg) := aI_mk (fx_lt h (by decide)) (fx_57 h) hi'
theorem si_57 (h : FX D hi) {i x : Int32} (hi' : pm_in i 20 = true) : sI [0] (mkS h0 B D c e hi z) (B + 57) i x = some (mkS h0 B D (up1 c 57 (upd (c 57) i.toNatClampNeg x)) e hi z) := sI_mk (fx_lt h (by decide)) (fx_57 h) hi'
theorem an_57 (h : FX D hi) : aNS (mkS h0 B D c e hi z) (B + 57) = some 20 := aN_mk (fx_lt h (by decide)) (fx_57 h)
theorem va_57 (h : FX D hi) {i : Int32} : F_BP_valueAt N (mkS h0 B D c e hi z) (B + 57) i = some (vat 20 (c 57) i, mkS h0 B D c e hi z) := valueAt_mk (fx_lt h (by decide)) (fx_57 h) (by decide)
theorem vs_57 (h : FX D hi) {i x : Int32} : F_BP_setAt N (mkS h0 B D c e hi z) (B + 57) i x = some (mkS h0 B D (up1 c 57 (vset 20 (c 57) i x)) e hi z) := setAt_mk (fx_lt h (by decide)) (fx_57 h) (by decide)
theorem rc_58 (h : FX D hi) : rcv (mkS h0 B D c e hi z) (B + 58) 4 = true := rcv_mk (fx_lt h (by decide)) (fx_58 h)
theorem rd_58_0 (h : FX D hi) : oI (mkS h0 B D c e hi z) (B + 58) 4 0 = some (c 58 0) := oI_mk (fx_lt h (by decide)) (fx_58 h) (v := 0) rfl
theorem wr_58_0 (h : FX D hi) {w : Int32} : wF (mkS h0 B D c e hi z) (B + 58) 4 0 .int (.int w) = some (mkS h0 B D (up1 c 58 (upd (c 58) 0 w)) e hi z) := wI_mk (fx_lt h (by decide)) (fx_58 h) (v := 0) rfl
theorem rd_58_1 (h : FX D hi) : oR (mkS h0 B D c e hi z) (B + 58) 4 1 = some (some (B + 59)) := oR_mk (fx_lt h (by decide)) (fx_58 h) (v := 59) rfl
theorem rd_58_2 (h : FX D hi) : oR (mkS h0 B D c e hi z) (B + 58) 4 2 = some (some (B + 61)) := oR_mk (fx_lt h (by decide)) (fx_58 h) (v := 61) rfl
theorem rd_58_3 (h : FX D hi) : oR (mkS h0 B D c e hi z) (B + 58) 4 3 = some (some (B + 62)) := oR_mk (fx_lt h (by decide)) (fx_58 h) (v := 62) rfl
theorem rd_58_4 (h : FX D hi) : oR (mkS h0 B D c e hi z) (B + 58) 4 4 = some (some (B + 63)) := oR_mk (fx_lt h (by decide)) (fx_58 h) (v := 63) rfl
theorem rd_58_5 (h : FX D hi) : oR (mkS h0 B D c e hi z) (B + 58) 4 5 = some (some (B + 68)) := oR_mk (fx_lt h (by decide)) (fx_58 h) (v := 68) rfl
theorem rd_58_6 (h : FX D hi) : oR (mkS h0 B D c e hi z) (B + 58) 4 6 = some (some (B + 73)) := oR_mk (fx_lt h (by decide)) (fx_58 h) (v := 73) rfl
theorem rd_58_7 (h : FX D hi) : oR (mkS h0 B D c e hi z) (B + 58) 4 7 = some (some (B + 75)) := oR_mk (fx_lt h (by decide)) (fx_58 h) (v := 75) rfl
theorem rd_58_8 (h : FX D hi) : oR (mkS h0 B D c e hi z) (B + 58) 4 8 = some (some (B + 77)) := oR_mk (fx_lt h (by decide)) (fx_58 h) (v := 77) rfl
theorem rd_58_9 (h : FX D hi) : oR (mkS h0 B D c e hi z) (B + 58) 4 9 = some (some (B + 79)) := oR_mk (fx_lt h (by decide)) (fx_58 h) (v := 79) rfl
theorem rd_58_10 (h : FX D hi) : oR (mkS h0 B D c e hi z) (B + 58) 4 10 = some (some (B + 81)) := oR_mk (fx_lt h (by decide)) (fx_58 h) (v := 81) rfl
theorem rd_58_11 (h : FX D hi) : oR (mkS h0 B D c e hi z) (B + 58) 4 11 = some (some (B + 82)) := oR_mk (fx_lt h (by decide)) (fx_58 h) (v := 82) rfl
theorem rc_59 (h : FX D hi) : rcv (mkS h0 B D c e hi z) (B + 59) 2 = true := rcv_mk (fx_lt h (by decide)) (fx_59 h)
theorem rd_59_0 (h : FX D hi) : oR (mkS h0 B D c e hi z) (B + 59) 2 0 = some (some (B + 60)) := oR_mk (fx_lt h (by decide)) (fx_59 h) (v := 60) rfl
theorem rd_59_1 (h : FX D hi) : oI (mkS h0 B D c e hi z) (B + 59) 2 1 = some (c 59 1) := oI_mk (fx_lt h (by decide)) (fx_59 h) (v := 0) rfl
theorem wr_59_1 (h : FX D hi) {w : Int32} : wF (mkS h0 B D c e hi z) (B + 59) 2 1 .int (.int w) = some (mkS h0 B D (up1 c 59 (upd (c 59) 1 w)) e hi z) := wI_mk (fx_lt h (by decide)) (fx_59 h) (v := 0) rfl
theorem rd_59_2 (h : FX D hi) : oI (mkS h0 B D c e hi z) (B + 59) 2 2 = some (c 59 2) := oI_mk (fx_lt h (by decide)) (fx_59 h) (v := 0) rfl
theorem wr_59_2 (h : FX D hi) {w : Int32} : wF (mkS h0 B D c e hi z) (B + 59) 2 2 .int (.int w) = some (mkS h0 B D (up1 c 59 (upd (c 59) 2 w)) e hi z) := wI_mk (fx_lt h (by decide)) (fx_59 h) (v := 0) rfl
theorem ai_60 (h : FX D hi) {i : Int32} (hi' : pm_in i 35 = true) : aI [0, 6] (mkS h0 B D c e hi z) (B + 60) i = some (c 60 i.toNatClampNeg) := aI_mk (fx_lt h (by decide)) (fx_60 h) hi'
theorem si_60 (h : FX D hi) {i x : Int32} (hi' : pm_in i 35 = true) : sI [0] (mkS h0 B D c e hi z) (B + 60) i x = some (mkS h0 B D (up1 c 60 (upd (c 60) i.toNatClampNeg x)) e hi z) := sI_mk (fx_lt h (by decide)) (fx_60 h) hi'
theorem an_60 (h : FX D hi) : aNS (mkS h0 B D c e hi z) (B + 60) = some 35 := aN_mk (fx_lt h (by decide)) (fx_60 h)
theorem va_60 (h : FX D hi) {i : Int32} : F_BP_valueAt N (mkS h0 B D c e hi z) (B + 60) i = some (vat 35 (c 60) i, mkS h0 B D c e hi z) := valueAt_mk (fx_lt h (by decide)) (fx_60 h) (by decide)
theorem vs_60 (h : FX D hi) {i x : Int32} : F_BP_setAt N (mkS h0 B D c e hi z) (B + 60) i x = some (mkS h0 B D (up1 c 60 (vset 35 (c 60) i x)) e hi z) := setAt_mk (fx_lt h (by decide)) (fx_60 h) (by decide)
theorem ai_61 (h : FX D hi) {i : Int32} (hi' : pm_in i 8 = true) : aI [0, 6] (mkS h0 B D c e hi z) (B + 61) i = some (c 61 i.toNatClampNeg) := aI_mk (fx_lt h (by decide)) (fx_61 h) hi'
theorem si_61 (h : FX D hi) {i x : Int32} (hi' : pm_in i 8 = true) : sI [0] (mkS h0 B D c e hi z) (B + 61) i x = some (mkS h0 B D (up1 c 61 (upd (c 61) i.toNatClampNeg x)) e hi z) := sI_mk (fx_lt h (by decide)) (fx_61 h) hi'
theorem an_61 (h : FX D hi) : aNS (mkS h0 B D c e hi z) (B + 61) = some 8 := aN_mk (fx_lt h (by decide)) (fx_61 h)
theorem va_61 (h : FX D hi) {i : Int32} : F_BP_valueAt N (mkS h0 B D c e hi z) (B + 61) i = some (vat 8 (c 61) i, mkS h0 B D c e hi z) := valueAt_mk (fx_lt h (by decide)) (fx_61 h) (by decide)
theorem vs_61 (h : FX D hi) {i x : Int32} : F_BP_setAt N (mkS h0 B D c e hi z) (B + 61) i x = some (mkS h0 B D (up1 c 61 (vset 8 (c 61) i x)) e hi z) := setAt_mk (fx_lt h (by decide)) (fx_61 h) (by decide)
theorem ai_62 (h : FX D hi) {i : Int32} (hi' : pm_in i 7 = true) : aI [0, 6] (mkS h0 B D c e hi z) (B + 62) i = some (c 62 i.toNatClampNeg) := aI_mk (fx_lt h (by decide)) (fx_62 h) hi'
theorem si_62 (h : FX D hi) {i x : Int32} (hi' : pm_in i 7 = true) : sI [0] (mkS h0 B D c e hi z) (B + 62) i x = some (mkS h0 B D (up1 c 62 (upd (c 62) i.toNatClampNeg x)) e hi z) := sI_mk (fx_lt h (by decide)) (fx_62 h) hi'
theorem an_62 (h : FX D hi) : aNS (mkS h0 B D c e hi z) (B + 62) = some 7 := aN_mk (fx_lt h (by decide)) (fx_62 h)
theorem va_62 (h : FX D hi) {i : Int32} : F_BP_valueAt N (mkS h0 B D c e hi z) (B + 62) i = some (vat 7 (c 62) i, mkS h0 B D c e hi z) := valueAt_mk (fx_lt h (by decide)) (fx_62 h) (by decide)
theorem vs_62 (h : FX D hi) {i x : Int32} : F_BP_setAt N (mkS h0 B D c e hi z) (B + 62) i x = some (mkS h0 B D (up1 c 62 (vset 7 (c 62) i x)) e hi z) := setAt_mk (fx_lt h (by decide)) (fx_62 h) (by decide)
theorem rc_63 (h : FX D hi) : rcv (mkS h0 B D c e hi z) (B + 63) 1 = true := rcv_mk (fx_lt h (by decide)) (fx_63 h)
theorem rd_63_0 (h : FX D hi) : oR (mkS h0 B D c e hi z) (B + 63) 1 0 = some (some (B + 64)) := oR_mk (fx_lt h (by decide)) (fx_63 h) (v := 64) rfl
theorem rd_63_1 (h : FX D hi) : oR (mkS h0 B D c e hi z) (B + 63) 1 1 = some (some (B + 65)) := oR_mk (fx_lt h (by decide)) (fx_63 h) (v := 65) rfl
theorem rd_63_2 (h : FX D hi) : oR (mkS h0 B D c e hi z) (B + 63) 1 2 = some (some (B + 66)) := oR_mk (fx_lt h (by decide)) (fx_63 h) (v := 66) rfl
theorem rd_63_3 (h : FX D hi) : oR (mkS h0 B D c e hi z) (B + 63) 1 3 = some (some (B + 67)) := oR_mk (fx_lt h (by decide)) (fx_63 h) (v := 67) rfl
theorem ai_64 (h : FX D hi) {i : Int32} (hi' : pm_in i 56 = true) : aI [0, 6] (mkS h0 B D c e hi z) (B + 64) i = some (c 64 i.toNatClampNeg) := aI_mk (fx_lt h (by decide)) (fx_64 h) hi'
theorem si_64 (h : FX D hi) {i x : Int32} (hi' : pm_in i 56 = true) : sI [0] (mkS h0 B D c e hi z) (B + 64) i x = some (mkS h0 B D (up1 c 64 (upd (c 64) i.toNatClampNeg x)) e hi z) := sI_mk (fx_lt h (by decide)) (fx_64 h) hi'
theorem an_64 (h : FX D hi) : aNS (mkS h0 B D c e hi z) (B + 64) = some 56 := aN_mk (fx_lt h (by decide)) (fx_64 h)
theorem va_64 (h : FX D hi) {i : Int32} : F_BP_valueAt N (mkS h0 B D c e hi z) (B + 64) i = some (vat 56 (c 64) i, mkS h0 B D c e hi z) := valueAt_mk (fx_lt h (by decide)) (fx_64 h) (by decide)
theorem vs_64 (h : FX D hi) {i x : Int32} : F_BP_setAt N (mkS h0 B D c e hi z) (B + 64) i x = some (mkS h0 B D (up1 c 64 (vset 56 (c 64) i x)) e hi z) := setAt_mk (fx_lt h (by decide)) (fx_64 h) (by decide)
theorem ai_65 (h : FX D hi) {i : Int32} (hi' : pm_in i 56 = true) : aI [0, 6] (mkS h0 B D c e hi z) (B + 65) i = some (c 65 i.toNatClampNeg) := aI_mk (fx_lt h (by decide)) (fx_65 h) hi'
theorem si_65 (h : FX D hi) {i x : Int32} (hi' : pm_in i 56 = true) : sI [0] (mkS h0 B D c e hi z) (B + 65) i x = some (mkS h0 B D (up1 c 65 (upd (c 65) i.toNatClampNeg x)) e hi z) := sI_mk (fx_lt h (by decide)) (fx_65 h) hi'
theorem an_65 (h : FX D hi) : aNS (mkS h0 B D c e hi z) (B + 65) = some 56 := aN_mk (fx_lt h (by decide)) (fx_65 h)
theorem va_65 (h : FX D hi) {i : Int32} : F_BP_valueAt N (mkS h0 B D c e hi z) (B + 65) i = some (vat 56 (c 65) i, mkS h0 B D c e hi z) := valueAt_mk (fx_lt h (by decide)) (fx_65 h) (by decide)
theorem vs_65 (h : FX D hi) {i x : Int32} : F_BP_setAt N (mkS h0 B D c e hi z) (B + 65) i x = some (mkS h0 B D (up1 c 65 (vset 56 (c 65) i x)) e hi z) := setAt_mk (fx_lt h (by decide)) (fx_65 h) (by decide)
theorem ai_66 (h : FX D hi) {i : Int32} (hi' : pm_in i 56 = true) : aI [0, 6] (mkS h0 B D c e hi z) (B + 66) i = some (c 66 i.toNatClampNeg) := aI_mk (fx_lt h (by decide)) (fx_66 h) hi'
theorem si_66 (h : FX D hi) {i x : Int32} (hi' : pm_in i 56 = true) : sI [0] (mkS h0 B D c e hi z) (B + 66) i x = some (mkS h0 B D (up1 c 66 (upd (c 66) i.toNatClampNeg x)) e hi z) := sI_mk (fx_lt h (by decide)) (fx_66 h) hi'
theorem an_66 (h : FX D hi) : aNS (mkS h0 B D c e hi z) (B + 66) = some 56 := aN_mk (fx_lt h (by decide)) (fx_66 h)
theorem va_66 (h : FX D hi) {i : Int32} : F_BP_valueAt N (mkS h0 B D c e hi z) (B + 66) i = some (vat 56 (c 66) i, mkS h0 B D c e hi z) := valueAt_mk (fx_lt h (by decide)) (fx_66 h) (by decide)
theorem vs_66 (h : FX D hi) {i x : Int32} : F_BP_setAt N (mkS h0 B D c e hi z) (B + 66) i x = some (mkS h0 B D (up1 c 66 (vset 56 (c 66) i x)) e hi z) := setAt_mk (fx_lt h (by decide)) (fx_66 h) (by decide)
theorem ai_67 (h : FX D hi) {i : Int32} (hi' : pm_in i 10 = true) : aI [0, 6] (mkS h0 B D c e hi z) (B + 67) i = some (c 67 i.toNatClampNeg) := aI_mk (fx_lt h (by decide)) (fx_67 h) hi'
theorem si_67 (h : FX D hi) {i x : Int32} (hi' : pm_in i 10 = true) : sI [0] (mkS h0 B D c e hi z) (B + 67) i x = some (mkS h0 B D (up1 c 67 (upd (c 67) i.toNatClampNeg x)) e hi z) := sI_mk (fx_lt h (by decide)) (fx_67 h) hi'
theorem an_67 (h : FX D hi) : aNS (mkS h0 B D c e hi z) (B + 67) = some 10 := aN_mk (fx_lt h (by decide)) (fx_67 h)
theorem va_67 (h : FX D hi) {i : Int32} : F_BP_valueAt N (mkS h0 B D c e hi z) (B + 67) i = some (vat 10 (c 67) i, mkS h0 B D c e hi z) := valueAt_mk (fx_lt h (by decide)) (fx_67 h) (by decide)
theorem vs_67 (h : FX D hi) {i x : Int32} : F_BP_setAt N (mkS h0 B D c e hi z) (B + 67) i x = some (mkS h0 B D (up1 c 67 (vset 10 (c 67) i x)) e hi z) := setAt_mk (fx_lt h (by decide)) (fx_67 h) (by decide)
theorem rc_68 (h : FX D hi) : rcv (mkS h0 B D c e hi z) (B + 68) 1 = true := rcv_mk (fx_lt h (by decide)) (fx_68 h)
theorem rd_68_0 (h : FX D hi) : oR (mkS h0 B D c e hi z) (B + 68) 1 0 = some (some (B + 69)) := oR_mk (fx_lt h (by decide)) (fx_68 h) (v := 69) rfl
theorem rd_68_1 (h : FX D hi) : oR (mkS h0 B D c e hi z) (B + 68) 1 1 = some (some (B + 70)) := oR_mk (fx_lt h (by decide)) (fx_68 h) (v := 70) rfl
theorem rd_68_2 (h : FX D hi) : oR (mkS h0 B D c e hi z) (B + 68) 1 2 = some (some (B + 71)) := oR_mk (fx_lt h (by decide)) (fx_68 h) (v := 71) rfl
theorem rd_68_3 (h : FX D hi) : oR (mkS h0 B D c e hi z) (B + 68) 1 3 = some (some (B + 72)) := oR_mk (fx_lt h (by decide)) (fx_68 h) (v := 72) rfl
theorem ai_69 (h : FX D hi) {i : Int32} (hi' : pm_in i 56 = true) : aI [0, 6] (mkS h0 B D c e hi z) (B + 69) i = some (c 69 i.toNatClampNeg) := aI_mk (fx_lt h (by decide)) (fx_69 h) hi'
theorem si_69 (h : FX D hi) {i x : Int32} (hi' : pm_in i 56 = true) : sI [0] (mkS h0 B D c e hi z) (B + 69) i x = some (mkS h0 B D (up1 c 69 (upd (c 69) i.toNatClampNeg x)) e hi z) := sI_mk (fx_lt h (by decide)) (fx_69 h) hi'
theorem an_69 (h : FX D hi) : aNS (mkS h0 B D c e hi z) (B + 69) = some 56 := aN_mk (fx_lt h (by decide)) (fx_69 h)
theorem va_69 (h : FX D hi) {i : Int32} : F_BP_valueAt N (mkS h0 B D c e hi z) (B + 69) i = some (vat 56 (c 69) i, mkS h0 B D c e hi z) := valueAt_mk (fx_lt h (by decide)) (fx_69 h) (by decide)
theorem vs_69 (h : FX D hi) {i x : Int32} : F_BP_setAt N (mkS h0 B D c e hi z) (B + 69) i x = some (mkS h0 B D (up1 c 69 (vset 56 (c 69) i x)) e hi z) := setAt_mk (fx_lt h (by decide)) (fx_69 h) (by decide)
theorem ai_70 (h : FX D hi) {i : Int32} (hi' : pm_in i 56 = true) : aI [0, 6] (mkS h0 B D c e hi z) (B + 70) i = some (c 70 i.toNatClampNeg) := aI_mk (fx_lt h (by decide)) (fx_70 h) hi'
theorem si_70 (h : FX D hi) {i x : Int32} (hi' : pm_in i 56 = true) : sI [0] (mkS h0 B D c e hi z) (B + 70) i x = some (mkS h0 B D (up1 c 70 (upd (c 70) i.toNatClampNeg x)) e hi z) := sI_mk (fx_lt h (by decide)) (fx_70 h) hi'
theorem an_70 (h : FX D hi) : aNS (mkS h0 B D c e hi z) (B + 70) = some 56 := aN_mk (fx_lt h (by decide)) (fx_70 h)
theorem va_70 (h : FX D hi) {i : Int32} : F_BP_valueAt N (mkS h0 B D c e hi z) (B + 70) i = some (vat 56 (c 70) i, mkS h0 B D c e hi z) := valueAt_mk (fx_lt h (by decide)) (fx_70 h) (by decide)
theorem vs_70 (h : FX D hi) {i x : Int32} : F_BP_setAt N (mkS h0 B D c e hi z) (B + 70) i x = some (mkS h0 B D (up1 c 70 (vset 56 (c 70) i x)) e hi z) := setAt_mk (fx_lt h (by decide)) (fx_70 h) (by decide)
theorem ai_71 (h : FX D hi) {i : Int32} (hi' : pm_in i 56 = true) : aI [0, 6] (mkS h0 B D c e hi z) (B + 71) i = some (c 71 i.toNatClampNeg) := aI_mk (fx_lt h (by decide)) (fx_71 h) hi'
theorem si_71 (h : FX D hi) {i x : Int32} (hi' : pm_in i 56 = true) : sI [0] (mkS h0 B D c e hi z) (B + 71) i x = some (mkS h0 B D (up1 c 71 (upd (c 71) i.toNatClampNeg x)) e hi z) := sI_mk (fx_lt h (by decide)) (fx_71 h) hi'
theorem an_71 (h : FX D hi) : aNS (mkS h0 B D c e hi z) (B + 71) = some 56 := aN_mk (fx_lt h (by decide)) (fx_71 h)
theorem va_71 (h : FX D hi) {i : Int32} : F_BP_valueAt N (mkS h0 B D c e hi z) (B + 71) i = some (vat 56 (c 71) i, mkS h0 B D c e hi z) := valueAt_mk (fx_lt h (by decide)) (fx_71 h) (by decide)
theorem vs_71 (h : FX D hi) {i x : Int32} : F_BP_setAt N (mkS h0 B D c e hi z) (B + 71) i x = some (mkS h0 B D (up1 c 71 (vset 56 (c 71) i x)) e hi z) := setAt_mk (fx_lt h (by decide)) (fx_71 h) (by decide)
theorem ai_72 (h : FX D hi) {i : Int32} (hi' : pm_in i 10 = true) : aI [0, 6] (mkS h0 B D c e hi z) (B + 72) i = some (c 72 i.toNatClampNeg) := aI_mk (fx_lt h (by decide)) (fx_72 h) hi'
theorem si_72 (h : FX D hi) {i x : Int32} (hi' : pm_in i 10 = true) : sI [0] (mkS h0 B D c e hi z) (B + 72) i x = some (mkS h0 B D (up1 c 72 (upd (c 72) i.toNatClampNeg x)) e hi z) := sI_mk (fx_lt h (by decide)) (fx_72 h) hi'
theorem an_72 (h : FX D hi) : aNS (mkS h0 B D c e hi z) (B + 72) = some 10 := aN_mk (fx_lt h (by decide)) (fx_72 h)
theorem va_72 (h : FX D hi) {i : Int32} : F_BP_valueAt N (mkS h0 B D c e hi z) (B + 72) i = some (vat 10 (c 72) i, mkS h0 B D c e hi z) := valueAt_mk (fx_lt h (by decide)) (fx_72 h) (by decide)
theorem vs_72 (h : FX D hi) {i x : Int32} : F_BP_setAt N (mkS h0 B D c e hi z) (B + 72) i x = some (mkS h0 B D (up1 c 72 (vset 10 (c 72) i x)) e hi z) := setAt_mk (fx_lt h (by decide)) (fx_72 h) (by decide)
theorem rc_73 (h : FX D hi) : rcv (mkS h0 B D c e hi z) (B + 73) 2 = true := rcv_mk (fx_lt h (by decide)) (fx_73 h)
theorem rd_73_0 (h : FX D hi) : oR (mkS h0 B D c e hi z) (B + 73) 2 0 = some (some (B + 74)) := oR_mk (fx_lt h (by decide)) (fx_73 h) (v := 74) rfl
theorem rd_73_1 (h : FX D hi) : oI (mkS h0 B D c e hi z) (B + 73) 2 1 = some (c 73 1) := oI_mk (fx_lt h (by decide)) (fx_73 h) (v := 0) rfl
theorem wr_73_1 (h : FX D hi) {w : Int32} : wF (mkS h0 B D c e hi z) (B + 73) 2 1 .int (.int w) = some (mkS h0 B D (up1 c 73 (upd (c 73) 1 w)) e hi z) := wI_mk (fx_lt h (by decide)) (fx_73 h) (v := 0) rfl
theorem rd_73_2 (h : FX D hi) : oI (mkS h0 B D c e hi z) (B + 73) 2 2 = some (c 73 2) := oI_mk (fx_lt h (by decide)) (fx_73 h) (v := 0) rfl
theorem wr_73_2 (h : FX D hi) {w : Int32} : wF (mkS h0 B D c e hi z) (B + 73) 2 2 .int (.int w) = some (mkS h0 B D (up1 c 73 (upd (c 73) 2 w)) e hi z) := wI_mk (fx_lt h (by decide)) (fx_73 h) (v := 0) rfl
theorem ai_74 (h : FX D hi) {i : Int32} (hi' : pm_in i 30 = true) : aI [0, 6] (mkS h0 B D c e hi z) (B + 74) i = some (c 74 i.toNatClampNeg) := aI_mk (fx_lt h (by decide)) (fx_74 h) hi'
theorem si_74 (h : FX D hi) {i x : Int32} (hi' : pm_in i 30 = true) : sI [0] (mkS h0 B D c e hi z) (B + 74) i x = some (mkS h0 B D (up1 c 74 (upd (c 74) i.toNatClampNeg x)) e hi z) := sI_mk (fx_lt h (by decide)) (fx_74 h) hi'
theorem an_74 (h : FX D hi) : aNS (mkS h0 B D c e hi z) (B + 74) = some 30 := aN_mk (fx_lt h (by decide)) (fx_74 h)
theorem va_74 (h : FX D hi) {i : Int32} : F_BP_valueAt N (mkS h0 B D c e hi z) (B + 74) i = some (vat 30 (c 74) i, mkS h0 B D c e hi z) := valueAt_mk (fx_lt h (by decide)) (fx_74 h) (by decide)
theorem vs_74 (h : FX D hi) {i x : Int32} : F_BP_setAt N (mkS h0 B D c e hi z) (B + 74) i x = some (mkS h0 B D (up1 c 74 (vset 30 (c 74) i x)) e hi z) := setAt_mk (fx_lt h (by decide)) (fx_74 h) (by decide)
theorem rc_75 (h : FX D hi) : rcv (mkS h0 B D c e hi z) (B + 75) 2 = true := rcv_mk (fx_lt h (by decide)) (fx_75 h)
theorem rd_75_0 (h : FX D hi) : oR (mkS h0 B D c e hi z) (B + 75) 2 0 = some (some (B + 76)) := oR_mk (fx_lt h (by decide)) (fx_75 h) (v := 76) rfl
theorem rd_75_1 (h : FX D hi) : oI (mkS h0 B D c e hi z) (B + 75) 2 1 = some (c 75 1) := oI_mk (fx_lt h (by decide)) (fx_75 h) (v := 0) rfl
theorem wr_75_1 (h : FX D hi) {w : Int32} : wF (mkS h0 B D c e hi z) (B + 75) 2 1 .int (.int w) = some (mkS h0 B D (up1 c 75 (upd (c 75) 1 w)) e hi z) := wI_mk (fx_lt h (by decide)) (fx_75 h) (v := 0) rfl
theorem rd_75_2 (h : FX D hi) : oI (mkS h0 B D c e hi z) (B + 75) 2 2 = some (c 75 2) := oI_mk (fx_lt h (by decide)) (fx_75 h) (v := 0) rfl
theorem wr_75_2 (h : FX D hi) {w : Int32} : wF (mkS h0 B D c e hi z) (B + 75) 2 2 .int (.int w) = some (mkS h0 B D (up1 c 75 (upd (c 75) 2 w)) e hi z) := wI_mk (fx_lt h (by decide)) (fx_75 h) (v := 0) rfl
theorem ai_76 (h : FX D hi) {i : Int32} (hi' : pm_in i 50 = true) : aI [0, 6] (mkS h0 B D c e hi z) (B + 76) i = some (c 76 i.toNatClampNeg) := aI_mk (fx_lt h (by decide)) (fx_76 h) hi'
theorem si_76 (h : FX D hi) {i x : Int32} (hi' : pm_in i 50 = true) : sI [0] (mkS h0 B D c e hi z) (B + 76) i x = some (mkS h0 B D (up1 c 76 (upd (c 76) i.toNatClampNeg x)) e hi z) := sI_mk (fx_lt h (by decide)) (fx_76 h) hi'
theorem an_76 (h : FX D hi) : aNS (mkS h0 B D c e hi z) (B + 76) = some 50 := aN_mk (fx_lt h (by decide)) (fx_76 h)
theorem va_76 (h : FX D hi) {i : Int32} : F_BP_valueAt N (mkS h0 B D c e hi z) (B + 76) i = some (vat 50 (c 76) i, mkS h0 B D c e hi z) := valueAt_mk (fx_lt h (by decide)) (fx_76 h) (by decide)
theorem vs_76 (h : FX D hi) {i x : Int32} : F_BP_setAt N (mkS h0 B D c e hi z) (B + 76) i x = some (mkS h0 B D (up1 c 76 (vset 50 (c 76) i x)) e hi z) := setAt_mk (fx_lt h (by decide)) (fx_76 h) (by decide)
theorem rc_77 (h : FX D hi) : rcv (mkS h0 B D c e hi z) (B + 77) 2 = true := rcv_mk (fx_lt h (by decide)) (fx_77 h)
theorem rd_77_0 (h : FX D hi) : oR (mkS h0 B D c e hi z) (B + 77) 2 0 = some (some (B + 78)) := oR_mk (fx_lt h (by decide)) (fx_77 h) (v := 78) rfl
theorem rd_77_1 (h : FX D hi) : oI (mkS h0 B D c e hi z) (B + 77) 2 1 = some (c 77 1) := oI_mk (fx_lt h (by decide)) (fx_77 h) (v := 0) rfl
theorem wr_77_1 (h : FX D hi) {w : Int32} : wF (mkS h0 B D c e hi z) (B + 77) 2 1 .int (.int w) = some (mkS h0 B D (up1 c 77 (upd (c 77) 1 w)) e hi z) := wI_mk (fx_lt h (by decide)) (fx_77 h) (v := 0) rfl
theorem rd_77_2 (h : FX D hi) : oI (mkS h0 B D c e hi z) (B + 77) 2 2 = some (c 77 2) := oI_mk (fx_lt h (by decide)) (fx_77 h) (v := 0) rfl
theorem wr_77_2 (h : FX D hi) {w : Int32} : wF (mkS h0 B D c e hi z) (B + 77) 2 2 .int (.int w) = some (mkS h0 B D (up1 c 77 (upd (c 77) 2 w)) e hi z) := wI_mk (fx_lt h (by decide)) (fx_77 h) (v := 0) rfl
theorem ai_78 (h : FX D hi) {i : Int32} (hi' : pm_in i 60 = true) : aI [0, 6] (mkS h0 B D c e hi z) (B + 78) i = some (c 78 i.toNatClampNeg) := aI_mk (fx_lt h (by decide)) (fx_78 h) hi'
theorem si_78 (h : FX D hi) {i x : Int32} (hi' : pm_in i 60 = true) : sI [0] (mkS h0 B D c e hi z) (B + 78) i x = some (mkS h0 B D (up1 c 78 (upd (c 78) i.toNatClampNeg x)) e hi z) := sI_mk (fx_lt h (by decide)) (fx_78 h) hi'
theorem an_78 (h : FX D hi) : aNS (mkS h0 B D c e hi z) (B + 78) = some 60 := aN_mk (fx_lt h (by decide)) (fx_78 h)
theorem va_78 (h : FX D hi) {i : Int32} : F_BP_valueAt N (mkS h0 B D c e hi z) (B + 78) i = some (vat 60 (c 78) i, mkS h0 B D c e hi z) := valueAt_mk (fx_lt h (by decide)) (fx_78 h) (by decide)
theorem vs_78 (h : FX D hi) {i x : Int32} : F_BP_setAt N (mkS h0 B D c e hi z) (B + 78) i x = some (mkS h0 B D (up1 c 78 (vset 60 (c 78) i x)) e hi z) := setAt_mk (fx_lt h (by decide)) (fx_78 h) (by decide)
theorem rc_79 (h : FX D hi) : rcv (mkS h0 B D c e hi z) (B + 79) 2 = true := rcv_mk (fx_lt h (by decide)) (fx_79 h)
theorem rd_79_0 (h : FX D hi) : oR (mkS h0 B D c e hi z) (B + 79) 2 0 = some (some (B + 80)) := oR_mk (fx_lt h (by decide)) (fx_79 h) (v := 80) rfl
theorem rd_79_1 (h : FX D hi) : oI (mkS h0 B D c e hi z) (B + 79) 2 1 = some (c 79 1) := oI_mk (fx_lt h (by decide)) (fx_79 h) (v := 0) rfl
theorem wr_79_1 (h : FX D hi) {w : Int32} : wF (mkS h0 B D c e hi z) (B + 79) 2 1 .int (.int w) = some (mkS h0 B D (up1 c 79 (upd (c 79) 1 w)) e hi z) := wI_mk (fx_lt h (by decide)) (fx_79 h) (v := 0) rfl
theorem rd_79_2 (h : FX D hi) : oI (mkS h0 B D c e hi z) (B + 79) 2 2 = some (c 79 2) := oI_mk (fx_lt h (by decide)) (fx_79 h) (v := 0) rfl
theorem wr_79_2 (h : FX D hi) {w : Int32} : wF (mkS h0 B D c e hi z) (B + 79) 2 2 .int (.int w) = some (mkS h0 B D (up1 c 79 (upd (c 79) 2 w)) e hi z) := wI_mk (fx_lt h (by decide)) (fx_79 h) (v := 0) rfl
theorem ai_80 (h : FX D hi) {i : Int32} (hi' : pm_in i 120 = true) : aI [0, 6] (mkS h0 B D c e hi z) (B + 80) i = some (c 80 i.toNatClampNeg) := aI_mk (fx_lt h (by decide)) (fx_80 h) hi'
theorem si_80 (h : FX D hi) {i x : Int32} (hi' : pm_in i 120 = true) : sI [0] (mkS h0 B D c e hi z) (B + 80) i x = some (mkS h0 B D (up1 c 80 (upd (c 80) i.toNatClampNeg x)) e hi z) := sI_mk (fx_lt h (by decide)) (fx_80 h) hi'
theorem an_80 (h : FX D hi) : aNS (mkS h0 B D c e hi z) (B + 80) = some 120 := aN_mk (fx_lt h (by decide)) (fx_80 h)
theorem va_80 (h : FX D hi) {i : Int32} : F_BP_valueAt N (mkS h0 B D c e hi z) (B + 80) i = some (vat 120 (c 80) i, mkS h0 B D c e hi z) := valueAt_mk (fx_lt h (by decide)) (fx_80 h) (by decide)
theorem vs_80 (h : FX D hi) {i x : Int32} : F_BP_setAt N (mkS h0 B D c e hi z) (B + 80) i x = some (mkS h0 B D (up1 c 80 (vset 120 (c 80) i x)) e hi z) := setAt_mk (fx_lt h (by decide)) (fx_80 h) (by decide)
theorem ai_81 (h : FX D hi) {i : Int32} (hi' : pm_in i 10 = true) : aI [0, 6] (mkS h0 B D c e hi z) (B + 81) i = some (c 81 i.toNatClampNeg) := aI_mk (fx_lt h (by decide)) (fx_81 h) hi'
theorem si_81 (h : FX D hi) {i x : Int32} (hi' : pm_in i 10 = true) : sI [0] (mkS h0 B D c e hi z) (B + 81) i x = some (mkS h0 B D (up1 c 81 (upd (c 81) i.toNatClampNeg x)) e hi z) := sI_mk (fx_lt h (by decide)) (fx_81 h) hi'
theorem an_81 (h : FX D hi) : aNS (mkS h0 B D c e hi z) (B + 81) = some 10 := aN_mk (fx_lt h (by decide)) (fx_81 h)
theorem va_81 (h : FX D hi) {i : Int32} : F_BP_valueAt N (mkS h0 B D c e hi z) (B + 81) i = some (vat 10 (c 81) i, mkS h0 B D c e hi z) := valueAt_mk (fx_lt h (by decide)) (fx_81 h) (by decide)
theorem vs_81 (h : FX D hi) {i x : Int32} : F_BP_setAt N (mkS h0 B D c e hi z) (B + 81) i x = some (mkS h0 B D (up1 c 81 (vset 10 (c 81) i x)) e hi z) := setAt_mk (fx_lt h (by decide)) (fx_81 h) (by decide)
theorem rc_82 (h : FX D hi) : rcv (mkS h0 B D c e hi z) (B + 82) 5 = true := rcv_mk (fx_lt h (by decide)) (fx_82 h)
theorem rd_82_0 (h : FX D hi) : oR (mkS h0 B D c e hi z) (B + 82) 5 0 = some (some (B + 83)) := oR_mk (fx_lt h (by decide)) (fx_82 h) (v := 83) rfl
theorem rd_82_1 (h : FX D hi) : oR (mkS h0 B D c e hi z) (B + 82) 5 1 = some (some (B + 84)) := oR_mk (fx_lt h (by decide)) (fx_82 h) (v := 84) rfl
theorem rd_82_2 (h : FX D hi) : oI (mkS h0 B D c e hi z) (B + 82) 5 2 = some (c 82 2) := oI_mk (fx_lt h (by decide)) (fx_82 h) (v := 0) rfl
theorem wr_82_2 (h : FX D hi) {w : Int32} : wF (mkS h0 B D c e hi z) (B + 82) 5 2 .int (.int w) = some (mkS h0 B D (up1 c 82 (upd (c 82) 2 w)) e hi z) := wI_mk (fx_lt h (by decide)) (fx_82 h) (v := 0) rfl
theorem rd_82_3 (h : FX D hi) : oI (mkS h0 B D c e hi z) (B + 82) 5 3 = some (c 82 3) := oI_mk (fx_lt h (by decide)) (fx_82 h) (v := 0) rfl
theorem wr_82_3 (h : FX D hi) {w : Int32} : wF (mkS h0 B D c e hi z) (B + 82) 5 3 .int (.int w) = some (mkS h0 B D (up1 c 82 (upd (c 82) 3 w)) e hi z) := wI_mk (fx_lt h (by decide)) (fx_82 h) (v := 0) rfl
theorem rd_82_4 (h : FX D hi) : oI (mkS h0 B D c e hi z) (B + 82) 5 4 = some (c 82 4) := oI_mk (fx_lt h (by decide)) (fx_82 h) (v := 0) rfl
theorem wr_82_4 (h : FX D hi) {w : Int32} (hw : w = 0 ∨ w = 1) : wF (mkS h0 B D c e hi z) (B + 82) 5 4 .boolean (.int w) = some (mkS h0 B D (up1 c 82 (upd (c 82) 4 w)) e hi z) := wZ_mk (fx_lt h (by decide)) (fx_82 h) (v := 0) rfl hw
theorem ai_84 (h : FX D hi) {i : Int32} (hi' : pm_in i 1024 = true) : aI [0, 6] (mkS h0 B D c e hi z) (B + 84) i = some (c 84 i.toNatClampNeg) := aI_mk (fx_lt h (by decide)) (fx_84 h) hi'
theorem si_84 (h : FX D hi) {i x : Int32} (hi' : pm_in i 1024 = true) : sI [0] (mkS h0 B D c e hi z) (B + 84) i x = some (mkS h0 B D (up1 c 84 (upd (c 84) i.toNatClampNeg x)) e hi z) := sI_mk (fx_lt h (by decide)) (fx_84 h) hi'
theorem an_84 (h : FX D hi) : aNS (mkS h0 B D c e hi z) (B + 84) = some 1024 := aN_mk (fx_lt h (by decide)) (fx_84 h)
theorem va_84 (h : FX D hi) {i : Int32} : F_BP_valueAt N (mkS h0 B D c e hi z) (B + 84) i = some (vat 1024 (c 84) i, mkS h0 B D c e hi z) := valueAt_mk (fx_lt h (by decide)) (fx_84 h) (by decide)
theorem vs_84 (h : FX D hi) {i x : Int32} : F_BP_setAt N (mkS h0 B D c e hi z) (B + 84) i x = some (mkS h0 B D (up1 c 84 (vset 1024 (c 84) i x)) e hi z) := setAt_mk (fx_lt h (by decide)) (fx_84 h) (by decide)
theorem rc_85 (h : FX D hi) : rcv (mkS h0 B D c e hi z) (B + 85) 11 = true := rcv_mk (fx_lt h (by decide)) (fx_85 h)
theorem rd_85_0 (h : FX D hi) : oI (mkS h0 B D c e hi z) (B + 85) 11 0 = some (c 85 0) := oI_mk (fx_lt h (by decide)) (fx_85 h) (v := 0) rfl
theorem wr_85_0 (h : FX D hi) {w : Int32} : wF (mkS h0 B D c e hi z) (B + 85) 11 0 .int (.int w) = some (mkS h0 B D (up1 c 85 (upd (c 85) 0 w)) e hi z) := wI_mk (fx_lt h (by decide)) (fx_85 h) (v := 0) rfl
theorem rd_85_1 (h : FX D hi) : oR (mkS h0 B D c e hi z) (B + 85) 11 1 = some (some (B + 86)) := oR_mk (fx_lt h (by decide)) (fx_85 h) (v := 86) rfl
theorem rd_85_2 (h : FX D hi) : oI (mkS h0 B D c e hi z) (B + 85) 11 2 = some (c 85 2) := oI_mk (fx_lt h (by decide)) (fx_85 h) (v := 0) rfl
theorem wr_85_2 (h : FX D hi) {w : Int32} : wF (mkS h0 B D c e hi z) (B + 85) 11 2 .int (.int w) = some (mkS h0 B D (up1 c 85 (upd (c 85) 2 w)) e hi z) := wI_mk (fx_lt h (by decide)) (fx_85 h) (v := 0) rfl
theorem rd_85_3 (h : FX D hi) : oI (mkS h0 B D c e hi z) (B + 85) 11 3 = some (c 85 3) := oI_mk (fx_lt h (by decide)) (fx_85 h) (v := 0) rfl
theorem wr_85_3 (h : FX D hi) {w : Int32} : wF (mkS h0 B D c e hi z) (B + 85) 11 3 .int (.int w) = some (mkS h0 B D (up1 c 85 (upd (c 85) 3 w)) e hi z) := wI_mk (fx_lt h (by decide)) (fx_85 h) (v := 0) rfl
theorem rd_85_4 (h : FX D hi) : oI (mkS h0 B D c e hi z) (B + 85) 11 4 = some (c 85 4) := oI_mk (fx_lt h (by decide)) (fx_85 h) (v := 0) rfl
theorem wr_85_4 (h : FX D hi) {w : Int32} : wF (mkS h0 B D c e hi z) (B + 85) 11 4 .int (.int w) = some (mkS h0 B D (up1 c 85 (upd (c 85) 4 w)) e hi z) := wI_mk (fx_lt h (by decide)) (fx_85 h) (v := 0) rfl
theorem rd_85_5 (h : FX D hi) : oI (mkS h0 B D c e hi z) (B + 85) 11 5 = some (c 85 5) := oI_mk (fx_lt h (by decide)) (fx_85 h) (v := 0) rfl
theorem wr_85_5 (h : FX D hi) {w : Int32} : wF (mkS h0 B D c e hi z) (B + 85) 11 5 .int (.int w) = some (mkS h0 B D (up1 c 85 (upd (c 85) 5 w)) e hi z) := wI_mk (fx_lt h (by decide)) (fx_85 h) (v := 0) rfl
theorem rd_85_6 (h : FX D hi) : oR (mkS h0 B D c e hi z) (B + 85) 11 6 = some (some (B + 87)) := oR_mk (fx_lt h (by decide)) (fx_85 h) (v := 87) rfl
theorem rd_85_7 (h : FX D hi) : oR (mkS h0 B D c e hi z) (B + 85) 11 7 = some (some (B + 88)) := oR_mk (fx_lt h (by decide)) (fx_85 h) (v := 88) rfl
theorem rd_85_8 (h : FX D hi) : oR (mkS h0 B D c e hi z) (B + 85) 11 8 = some (some (B + 89)) := oR_mk (fx_lt h (by decide)) (fx_85 h) (v := 89) rfl
theorem rd_85_9 (h : FX D hi) : oR (mkS h0 B D c e hi z) (B + 85) 11 9 = some (some (B + 90)) := oR_mk (fx_lt h (by decide)) (fx_85 h) (v := 90) rfl
theorem rd_85_10 (h : FX D hi) : oR (mkS h0 B D c e hi z) (B + 85) 11 10 = some (some (B + 91)) := oR_mk (fx_lt h (by decide)) (fx_85 h) (v := 91) rfl
theorem rd_85_11 (h : FX D hi) : oR (mkS h0 B D c e hi z) (B + 85) 11 11 = some (some (B + 92)) := oR_mk (fx_lt h (by decide)) (fx_85 h) (v := 92) rfl
theorem rd_85_12 (h : FX D hi) : oR (mkS h0 B D c e hi z) (B + 85) 11 12 = some (some (B + 93)) := oR_mk (fx_lt h (by decide)) (fx_85 h) (v := 93) rfl
theorem rd_85_13 (h : FX D hi) : oR (mkS h0 B D c e hi z) (B + 85) 11 13 = some (some (B + 94)) := oR_mk (fx_lt h (by decide)) (fx_85 h) (v := 94) rfl
theorem rd_85_14 (h : FX D hi) : oR (mkS h0 B D c e hi z) (B + 85) 11 14 = some (some (B + 95)) := oR_mk (fx_lt h (by decide)) (fx_85 h) (v := 95) rfl
theorem rd_85_15 (h : FX D hi) : oR (mkS h0 B D c e hi z) (B + 85) 11 15 = some (some (B + 96)) := oR_mk (fx_lt h (by decide)) (fx_85 h) (v := 96) rfl
theorem rd_85_16 (h : FX D hi) : oR (mkS h0 B D c e hi z) (B + 85) 11 16 = some (some (B + 97)) := oR_mk (fx_lt h (by decide)) (fx_85 h) (v := 97) rfl
theorem rd_85_17 (h : FX D hi) : oR (mkS h0 B D c e hi z) (B + 85) 11 17 = some (some (B + 98)) := oR_mk (fx_lt h (by decide)) (fx_85 h) (v := 98) rfl
theorem rd_85_18 (h : FX D hi) : oR (mkS h0 B D c e hi z) (B + 85) 11 18 = some (some (B + 99)) := oR_mk (fx_lt h (by decide)) (fx_85 h) (v := 99) rfl
theorem rd_85_19 (h : FX D hi) : oI (mkS h0 B D c e hi z) (B + 85) 11 19 = some (c 85 19) := oI_mk (fx_lt h (by decide)) (fx_85 h) (v := 0) rfl
theorem wr_85_19 (h : FX D hi) {w : Int32} : wF (mkS h0 B D c e hi z) (B + 85) 11 19 .int (.int w) = some (mkS h0 B D (up1 c 85 (upd (c 85) 19 w)) e hi z) := wI_mk (fx_lt h (by decide)) (fx_85 h) (v := 0) rfl
theorem rd_85_20 (h : FX D hi) : oR (mkS h0 B D c e hi z) (B + 85) 11 20 = some (some (B + 100)) := oR_mk (fx_lt h (by decide)) (fx_85 h) (v := 100) rfl
theorem rd_85_21 (h : FX D hi) : oR (mkS h0 B D c e hi z) (B + 85) 11 21 = some (some (B + 101)) := oR_mk (fx_lt h (by decide)) (fx_85 h) (v := 101) rfl
theorem rd_85_22 (h : FX D hi) : oR (mkS h0 B D c e hi z) (B + 85) 11 22 = some (some (B + 102)) := oR_mk (fx_lt h (by decide)) (fx_85 h) (v := 102) rfl
theorem rd_85_23 (h : FX D hi) : oR (mkS h0 B D c e hi z) (B + 85) 11 23 = some (some (B + 103)) := oR_mk (fx_lt h (by decide)) (fx_85 h) (v := 103) rfl
theorem rd_85_24 (h : FX D hi) : oR (mkS h0 B D c e hi z) (B + 85) 11 24 = some (some (B + 104)) := oR_mk (fx_lt h (by decide)) (fx_85 h) (v := 104) rfl
theorem rd_85_25 (h : FX D hi) : oR (mkS h0 B D c e hi z) (B + 85) 11 25 = some (some (B + 105)) := oR_mk (fx_lt h (by decide)) (fx_85 h) (v := 105) rfl
theorem rd_85_26 (h : FX D hi) : oR (mkS h0 B D c e hi z) (B + 85) 11 26 = some (some (B + 106)) := oR_mk (fx_lt h (by decide)) (fx_85 h) (v := 106) rfl
theorem rd_85_27 (h : FX D hi) : oR (mkS h0 B D c e hi z) (B + 85) 11 27 = some (some (B + 107)) := oR_mk (fx_lt h (by decide)) (fx_85 h) (v := 107) rfl
theorem rd_85_28 (h : FX D hi) : oR (mkS h0 B D c e hi z) (B + 85) 11 28 = some (some (B + 108)) := oR_mk (fx_lt h (by decide)) (fx_85 h) (v := 108) rfl
theorem rd_85_29 (h : FX D hi) : oI (mkS h0 B D c e hi z) (B + 85) 11 29 = some (c 85 29) := oI_mk (fx_lt h (by decide)) (fx_85 h) (v := 0) rfl
theorem wr_85_29 (h : FX D hi) {w : Int32} : wF (mkS h0 B D c e hi z) (B + 85) 11 29 .int (.int w) = some (mkS h0 B D (up1 c 85 (upd (c 85) 29 w)) e hi z) := wI_mk (fx_lt h (by decide)) (fx_85 h) (v := 0) rfl
theorem rd_85_30 (h : FX D hi) : oI (mkS h0 B D c e hi z) (B + 85) 11 30 = some (c 85 30) := oI_mk (fx_lt h (by decide)) (fx_85 h) (v := 0) rfl
theorem wr_85_30 (h : FX D hi) {w : Int32} : wF (mkS h0 B D c e hi z) (B + 85) 11 30 .int (.int w) = some (mkS h0 B D (up1 c 85 (upd (c 85) 30 w)) e hi z) := wI_mk (fx_lt h (by decide)) (fx_85 h) (v := 0) rfl
theorem rd_85_31 (h : FX D hi) : oI (mkS h0 B D c e hi z) (B + 85) 11 31 = some (c 85 31) := oI_mk (fx_lt h (by decide)) (fx_85 h) (v := 0) rfl
theorem wr_85_31 (h : FX D hi) {w : Int32} : wF (mkS h0 B D c e hi z) (B + 85) 11 31 .int (.int w) = some (mkS h0 B D (up1 c 85 (upd (c 85) 31 w)) e hi z) := wI_mk (fx_lt h (by decide)) (fx_85 h) (v := 0) rfl
theorem rd_85_32 (h : FX D hi) : oI (mkS h0 B D c e hi z) (B + 85) 11 32 = some (c 85 32) := oI_mk (fx_lt h (by decide)) (fx_85 h) (v := 0) rfl
theorem wr_85_32 (h : FX D hi) {w : Int32} : wF (mkS h0 B D c e hi z) (B + 85) 11 32 .int (.int w) = some (mkS h0 B D (up1 c 85 (upd (c 85) 32 w)) e hi z) := wI_mk (fx_lt h (by decide)) (fx_85 h) (v := 0) rfl
theorem rd_85_33 (h : FX D hi) : oI (mkS h0 B D c e hi z) (B + 85) 11 33 = some (c 85 33) := oI_mk (fx_lt h (by decide)) (fx_85 h) (v := 0) rfl
theorem wr_85_33 (h : FX D hi) {w : Int32} : wF (mkS h0 B D c e hi z) (B + 85) 11 33 .int (.int w) = some (mkS h0 B D (up1 c 85 (upd (c 85) 33 w)) e hi z) := wI_mk (fx_lt h (by decide)) (fx_85 h) (v := 0) rfl
theorem rd_85_34 (h : FX D hi) : oI (mkS h0 B D c e hi z) (B + 85) 11 34 = some (c 85 34) := oI_mk (fx_lt h (by decide)) (fx_85 h) (v := 0) rfl
theorem wr_85_34 (h : FX D hi) {w : Int32} (hw : w = 0 ∨ w = 1) : wF (mkS h0 B D c e hi z) (B + 85) 11 34 .boolean (.int w) = some (mkS h0 B D (up1 c 85 (upd (c 85) 34 w)) e hi z) := wZ_mk (fx_lt h (by decide)) (fx_85 h) (v := 0) rfl hw
theorem rd_85_35 (h : FX D hi) : oR (mkS h0 B D c e hi z) (B + 85) 11 35 = some (some (B + 109)) := oR_mk (fx_lt h (by decide)) (fx_85 h) (v := 109) rfl
theorem rd_85_36 (h : FX D hi) : oR (mkS h0 B D c e hi z) (B + 85) 11 36 = some (some (B + 110)) := oR_mk (fx_lt h (by decide)) (fx_85 h) (v := 110) rfl
theorem rd_85_37 (h : FX D hi) : oR (mkS h0 B D c e hi z) (B + 85) 11 37 = some (some (B + 111)) := oR_mk (fx_lt h (by decide)) (fx_85 h) (v := 111) rfl
theorem rd_85_38 (h : FX D hi) : oR (mkS h0 B D c e hi z) (B + 85) 11 38 = some (some (B + 112)) := oR_mk (fx_lt h (by decide)) (fx_85 h) (v := 112) rfl
theorem rd_85_39 (h : FX D hi) : oR (mkS h0 B D c e hi z) (B + 85) 11 39 = some (some (B + 113)) := oR_mk (fx_lt h (by decide)) (fx_85 h) (v := 113) rfl
theorem rd_85_40 (h : FX D hi) : oR (mkS h0 B D c e hi z) (B + 85) 11 40 = some (some (B + 114)) := oR_mk (fx_lt h (by decide)) (fx_85 h) (v := 114) rfl
theorem rd_85_41 (h : FX D hi) : oR (mkS h0 B D c e hi z) (B + 85) 11 41 = some (some (B + 115)) := oR_mk (fx_lt h (by decide)) (fx_85 h) (v := 115) rfl
theorem rd_85_42 (h : FX D hi) : oR (mkS h0 B D c e hi z) (B + 85) 11 42 = some (some (B + 116)) := oR_mk (fx_lt h (by decide)) (fx_85 h) (v := 116) rfl
theorem rd_85_43 (h : FX D hi) : oR (mkS h0 B D c e hi z) (B + 85) 11 43 = some (some (B + 117)) := oR_mk (fx_lt h (by decide)) (fx_85 h) (v := 117) rfl
theorem rd_85_44 (h : FX D hi) : oR (mkS h0 B D c e hi z) (B + 85) 11 44 = some (some (B + 118)) := oR_mk (fx_lt h (by decide)) (fx_85 h) (v := 118) rfl
theorem rd_85_45 (h : FX D hi) : oR (mkS h0 B D c e hi z) (B + 85) 11 45 = some (some (B + 119)) := oR_mk (fx_lt h (by decide)) (fx_85 h) (v := 119) rfl
theorem rd_85_46 (h : FX D hi) : oR (mkS h0 B D c e hi z) (B + 85) 11 46 = some (some (B + 120)) := oR_mk (fx_lt h (by decide)) (fx_85 h) (v := 120) rfl
theorem rd_85_47 (h : FX D hi) : oR (mkS h0 B D c e hi z) (B + 85) 11 47 = some (some (B + 121)) := oR_mk (fx_lt h (by decide)) (fx_85 h) (v := 121) rfl
theorem rd_85_48 (h : FX D hi) : oR (mkS h0 B D c e hi z) (B + 85) 11 48 = some (some (B + 122)) := oR_mk (fx_lt h (by decide)) (fx_85 h) (v := 122) rfl
theorem rd_85_49 (h : FX D hi) : oR (mkS h0 B D c e hi z) (B + 85) 11 49 = some (some (B + 123)) := oR_mk (fx_lt h (by decide)) (fx_85 h) (v := 123) rfl
theorem rd_85_50 (h : FX D hi) : oR (mkS h0 B D c e hi z) (B + 85) 11 50 = some (some (B + 124)) := oR_mk (fx_lt h (by decide)) (fx_85 h) (v := 124) rfl
theorem rd_85_51 (h : FX D hi) : oI (mkS h0 B D c e hi z) (B + 85) 11 51 = some (c 85 51) := oI_mk (fx_lt h (by decide)) (fx_85 h) (v := 0) rfl
theorem wr_85_51 (h : FX D hi) {w : Int32} : wF (mkS h0 B D c e hi z) (B + 85) 11 51 .int (.int w) = some (mkS h0 B D (up1 c 85 (upd (c 85) 51 w)) e hi z) := wI_mk (fx_lt h (by decide)) (fx_85 h) (v := 0) rfl
theorem rd_85_52 (h : FX D hi) : oI (mkS h0 B D c e hi z) (B + 85) 11 52 = some (c 85 52) := oI_mk (fx_lt h (by decide)) (fx_85 h) (v := 0) rfl
theorem wr_85_52 (h : FX D hi) {w : Int32} : wF (mkS h0 B D c e hi z) (B + 85) 11 52 .int (.int w) = some (mkS h0 B D (up1 c 85 (upd (c 85) 52 w)) e hi z) := wI_mk (fx_lt h (by decide)) (fx_85 h) (v := 0) rfl
theorem rd_85_53 (h : FX D hi) : oR (mkS h0 B D c e hi z) (B + 85) 11 53 = some (some (B + 125)) := oR_mk (fx_lt h (by decide)) (fx_85 h) (v := 125) rfl
theorem rd_85_54 (h : FX D hi) : oR (mkS h0 B D c e hi z) (B + 85) 11 54 = some (some (B + 126)) := oR_mk (fx_lt h (by decide)) (fx_85 h) (v := 126) rfl
theorem rd_85_55 (h : FX D hi) : oR (mkS h0 B D c e hi z) (B + 85) 11 55 = some (some (B + 127)) := oR_mk (fx_lt h (by decide)) (fx_85 h) (v := 127) rfl
theorem rd_85_56 (h : FX D hi) : oR (mkS h0 B D c e hi z) (B + 85) 11 56 = some (some (B + 128)) := oR_mk (fx_lt h (by decide)) (fx_85 h) (v := 128) rfl
theorem rd_85_57 (h : FX D hi) : oI (mkS h0 B D c e hi z) (B + 85) 11 57 = some (c 85 57) := oI_mk (fx_lt h (by decide)) (fx_85 h) (v := 0) rfl
theorem wr_85_57 (h : FX D hi) {w : Int32} : wF (mkS h0 B D c e hi z) (B + 85) 11 57 .int (.int w) = some (mkS h0 B D (up1 c 85 (upd (c 85) 57 w)) e hi z) := wI_mk (fx_lt h (by decide)) (fx_85 h) (v := 0) rfl
theorem ai_86 (h : FX D hi) {i : Int32} (hi' : pm_in i 300 = true) : aI [2, 3] (mkS h0 B D c e hi z) (B + 86) i = some (c 86 i.toNatClampNeg) := aB_mk (fx_lt h (by decide)) (by decide) (fx_86 h) hi'
theorem si_86 (h : FX D hi) {i x : Int32} (hi' : pm_in i 300 = true) : sI [2, 3] (mkS h0 B D c e hi z) (B + 86) i x = some (mkS h0 B D (up1 c 86 (upd (c 86) i.toNatClampNeg (pm_nar 2 x))) e hi z) := sB_mk (fx_lt h (by decide)) (by decide) (fx_86 h) hi'
theorem ai_87 (h : FX D hi) {i : Int32} (hi' : pm_in i 7 = true) : aI [0, 6] (mkS h0 B D c e hi z) (B + 87) i = some (c 87 i.toNatClampNeg) := aI_mk (fx_lt h (by decide)) (fx_87 h) hi'
theorem si_87 (h : FX D hi) {i x : Int32} (hi' : pm_in i 7 = true) : sI [0] (mkS h0 B D c e hi z) (B + 87) i x = some (mkS h0 B D (up1 c 87 (upd (c 87) i.toNatClampNeg x)) e hi z) := sI_mk (fx_lt h (by decide)) (fx_87 h) hi'
theorem an_87 (h : FX D hi) : aNS (mkS h0 B D c e hi z) (B + 87) = some 7 := aN_mk (fx_lt h (by decide)) (fx_87 h)
theorem ai_88 (h : FX D hi) {i : Int32} (hi' : pm_in i 7 = true) : aI [0, 6] (mkS h0 B D c e hi z) (B + 88) i = some (c 88 i.toNatClampNeg) := aI_mk (fx_lt h (by decide)) (fx_88 h) hi'
theorem si_88 (h : FX D hi) {i x : Int32} (hi' : pm_in i 7 = true) : sI [0] (mkS h0 B D c e hi z) (B + 88) i x = some (mkS h0 B D (up1 c 88 (upd (c 88) i.toNatClampNeg x)) e hi z) := sI_mk (fx_lt h (by decide)) (fx_88 h) hi'
theorem an_88 (h : FX D hi) : aNS (mkS h0 B D c e hi z) (B + 88) = some 7 := aN_mk (fx_lt h (by decide)) (fx_88 h)
theorem ai_89 (h : FX D hi) {i : Int32} (hi' : pm_in i 49 = true) : aI [0, 6] (mkS h0 B D c e hi z) (B + 89) i = some (c 89 i.toNatClampNeg) := aI_mk (fx_lt h (by decide)) (fx_89 h) hi'
theorem si_89 (h : FX D hi) {i x : Int32} (hi' : pm_in i 49 = true) : sI [0] (mkS h0 B D c e hi z) (B + 89) i x = some (mkS h0 B D (up1 c 89 (upd (c 89) i.toNatClampNeg x)) e hi z) := sI_mk (fx_lt h (by decide)) (fx_89 h) hi'
theorem an_89 (h : FX D hi) : aNS (mkS h0 B D c e hi z) (B + 89) = some 49 := aN_mk (fx_lt h (by decide)) (fx_89 h)
theorem ai_90 (h : FX D hi) {i : Int32} (hi' : pm_in i 49 = true) : aI [0, 6] (mkS h0 B D c e hi z) (B + 90) i = some (c 90 i.toNatClampNeg) := aI_mk (fx_lt h (by decide)) (fx_90 h) hi'
theorem si_90 (h : FX D hi) {i x : Int32} (hi' : pm_in i 49 = true) : sI [0] (mkS h0 B D c e hi z) (B + 90) i x = some (mkS h0 B D (up1 c 90 (upd (c 90) i.toNatClampNeg x)) e hi z) := sI_mk (fx_lt h (by decide)) (fx_90 h) hi'
theorem an_90 (h : FX D hi) : aNS (mkS h0 B D c e hi z) (B + 90) = some 49 := aN_mk (fx_lt h (by decide)) (fx_90 h)
theorem ai_91 (h : FX D hi) {i : Int32} (hi' : pm_in i 49 = true) : aI [0, 6] (mkS h0 B D c e hi z) (B + 91) i = some (c 91 i.toNatClampNeg) := aI_mk (fx_lt h (by decide)) (fx_91 h) hi'
theorem si_91 (h : FX D hi) {i x : Int32} (hi' : pm_in i 49 = true) : sI [0] (mkS h0 B D c e hi z) (B + 91) i x = some (mkS h0 B D (up1 c 91 (upd (c 91) i.toNatClampNeg x)) e hi z) := sI_mk (fx_lt h (by decide)) (fx_91 h) hi'
theorem an_91 (h : FX D hi) : aNS (mkS h0 B D c e hi z) (B + 91) = some 49 := aN_mk (fx_lt h (by decide)) (fx_91 h)
theorem ai_92 (h : FX D hi) {i : Int32} (hi' : pm_in i 49 = true) : aI [0, 6] (mkS h0 B D c e hi z) (B + 92) i = some (c 92 i.toNatClampNeg) := aI_mk (fx_lt h (by decide)) (fx_92 h) hi'
theorem si_92 (h : FX D hi) {i x : Int32} (hi' : pm_in i 49 = true) : sI [0] (mkS h0 B D c e hi z) (B + 92) i x = some (mkS h0 B D (up1 c 92 (upd (c 92) i.toNatClampNeg x)) e hi z) := sI_mk (fx_lt h (by decide)) (fx_92 h) hi'
theorem an_92 (h : FX D hi) : aNS (mkS h0 B D c e hi z) (B + 92) = some 49 := aN_mk (fx_lt h (by decide)) (fx_92 h)
theorem ai_93 (h : FX D hi) {i : Int32} (hi' : pm_in i 7 = true) : aI [0, 6] (mkS h0 B D c e hi z) (B + 93) i = some (c 93 i.toNatClampNeg) := aI_mk (fx_lt h (by decide)) (fx_93 h) hi'
theorem si_93 (h : FX D hi) {i x : Int32} (hi' : pm_in i 7 = true) : sI [0] (mkS h0 B D c e hi z) (B + 93) i x = some (mkS h0 B D (up1 c 93 (upd (c 93) i.toNatClampNeg x)) e hi z) := sI_mk (fx_lt h (by decide)) (fx_93 h) hi'
theorem an_93 (h : FX D hi) : aNS (mkS h0 B D c e hi z) (B + 93) = some 7 := aN_mk (fx_lt h (by decide)) (fx_93 h)
theorem ai_94 (h : FX D hi) {i : Int32} (hi' : pm_in i 420 = true) : aI [0, 6] (mkS h0 B D c e hi z) (B + 94) i = some (c 94 i.toNatClampNeg) := aI_mk (fx_lt h (by decide)) (fx_94 h) hi'
theorem si_94 (h : FX D hi) {i x : Int32} (hi' : pm_in i 420 = true) : sI [0] (mkS h0 B D c e hi z) (B + 94) i x = some (mkS h0 B D (up1 c 94 (upd (c 94) i.toNatClampNeg x)) e hi z) := sI_mk (fx_lt h (by decide)) (fx_94 h) hi'
theorem an_94 (h : FX D hi) : aNS (mkS h0 B D c e hi z) (B + 94) = some 420 := aN_mk (fx_lt h (by decide)) (fx_94 h)
theorem ai_95 (h : FX D hi) {i : Int32} (hi' : pm_in i 420 = true) : aI [0, 6] (mkS h0 B D c e hi z) (B + 95) i = some (c 95 i.toNatClampNeg) := aI_mk (fx_lt h (by decide)) (fx_95 h) hi'
theorem si_95 (h : FX D hi) {i x : Int32} (hi' : pm_in i 420 = true) : sI [0] (mkS h0 B D c e hi z) (B + 95) i x = some (mkS h0 B D (up1 c 95 (upd (c 95) i.toNatClampNeg x)) e hi z) := sI_mk (fx_lt h (by decide)) (fx_95 h) hi'
theorem an_95 (h : FX D hi) : aNS (mkS h0 B D c e hi z) (B + 95) = some 420 := aN_mk (fx_lt h (by decide)) (fx_95 h)
theorem ai_96 (h : FX D hi) {i : Int32} (hi' : pm_in i 420 = true) : aI [0, 6] (mkS h0 B D c e hi z) (B + 96) i = some (c 96 i.toNatClampNeg) := aI_mk (fx_lt h (by decide)) (fx_96 h) hi'
theorem si_96 (h : FX D hi) {i x : Int32} (hi' : pm_in i 420 = true) : sI [0] (mkS h0 B D c e hi z) (B + 96) i x = some (mkS h0 B D (up1 c 96 (upd (c 96) i.toNatClampNeg x)) e hi z) := sI_mk (fx_lt h (by decide)) (fx_96 h) hi'
theorem an_96 (h : FX D hi) : aNS (mkS h0 B D c e hi z) (B + 96) = some 420 := aN_mk (fx_lt h (by decide)) (fx_96 h)
theorem ai_97 (h : FX D hi) {i : Int32} (hi' : pm_in i 420 = true) : aI [0, 6] (mkS h0 B D c e hi z) (B + 97) i = some (c 97 i.toNatClampNeg) := aI_mk (fx_lt h (by decide)) (fx_97 h) hi'
theorem si_97 (h : FX D hi) {i x : Int32} (hi' : pm_in i 420 = true) : sI [0] (mkS h0 B D c e hi z) (B + 97) i x = some (mkS h0 B D (up1 c 97 (upd (c 97) i.toNatClampNeg x)) e hi z) := sI_mk (fx_lt h (by decide)) (fx_97 h) hi'
theorem an_97 (h : FX D hi) : aNS (mkS h0 B D c e hi z) (B + 97) = some 420 := aN_mk (fx_lt h (by decide)) (fx_97 h)
theorem ai_98 (h : FX D hi) {i : Int32} (hi' : pm_in i 420 = true) : aI [0, 6] (mkS h0 B D c e hi z) (B + 98) i = some (c 98 i.toNatClampNeg) := aI_mk (fx_lt h (by decide)) (fx_98 h) hi'
theorem si_98 (h : FX D hi) {i x : Int32} (hi' : pm_in i 420 = true) : sI [0] (mkS h0 B D c e hi z) (B + 98) i x = some (mkS h0 B D (up1 c 98 (upd (c 98) i.toNatClampNeg x)) e hi z) := sI_mk (fx_lt h (by decide)) (fx_98 h) hi'
theorem an_98 (h : FX D hi) : aNS (mkS h0 B D c e hi z) (B + 98) = some 420 := aN_mk (fx_lt h (by decide)) (fx_98 h)
theorem ai_99 (h : FX D hi) {i : Int32} (hi' : pm_in i 7 = true) : aI [0, 6] (mkS h0 B D c e hi z) (B + 99) i = some (c 99 i.toNatClampNeg) := aI_mk (fx_lt h (by decide)) (fx_99 h) hi'
theorem si_99 (h : FX D hi) {i x : Int32} (hi' : pm_in i 7 = true) : sI [0] (mkS h0 B D c e hi z) (B + 99) i x = some (mkS h0 B D (up1 c 99 (upd (c 99) i.toNatClampNeg x)) e hi z) := sI_mk (fx_lt h (by decide)) (fx_99 h) hi'
theorem an_99 (h : FX D hi) : aNS (mkS h0 B D c e hi z) (B + 99) = some 7 := aN_mk (fx_lt h (by decide)) (fx_99 h)
theorem ai_100 (h : FX D hi) {i : Int32} (hi' : pm_in i 7 = true) : aI [0, 6] (mkS h0 B D c e hi z) (B + 100) i = some (c 100 i.toNatClampNeg) := aI_mk (fx_lt h (by decide)) (fx_100 h) hi'
theorem si_100 (h : FX D hi) {i x : Int32} (hi' : pm_in i 7 = true) : sI [0] (mkS h0 B D c e hi z) (B + 100) i x = some (mkS h0 B D (up1 c 100 (upd (c 100) i.toNatClampNeg x)) e hi z) := sI_mk (fx_lt h (by decide)) (fx_100 h) hi'
theorem an_100 (h : FX D hi) : aNS (mkS h0 B D c e hi z) (B + 100) = some 7 := aN_mk (fx_lt h (by decide)) (fx_100 h)
theorem ai_101 (h : FX D hi) {i : Int32} (hi' : pm_in i 60 = true) : aI [0, 6] (mkS h0 B D c e hi z) (B + 101) i = some (c 101 i.toNatClampNeg) := aI_mk (fx_lt h (by decide)) (fx_101 h) hi'
theorem si_101 (h : FX D hi) {i x : Int32} (hi' : pm_in i 60 = true) : sI [0] (mkS h0 B D c e hi z) (B + 101) i x = some (mkS h0 B D (up1 c 101 (upd (c 101) i.toNatClampNeg x)) e hi z) := sI_mk (fx_lt h (by decide)) (fx_101 h) hi'
theorem an_101 (h : FX D hi) : aNS (mkS h0 B D c e hi z) (B + 101) = some 60 := aN_mk (fx_lt h (by decide)) (fx_101 h)
theorem ai_102 (h : FX D hi) {i : Int32} (hi' : pm_in i 60 = true) : aI [0, 6] (mkS h0 B D c e hi z) (B + 102) i = some (c 102 i.toNatClampNeg) := aI_mk (fx_lt h (by decide)) (fx_102 h) hi'
theorem si_102 (h : FX D hi) {i x : Int32} (hi' : pm_in i 60 = true) : sI [0] (mkS h0 B D c e hi z) (B + 102) i x = some (mkS h0 B D (up1 c 102 (upd (c 102) i.toNatClampNeg x)) e hi z) := sI_mk (fx_lt h (by decide)) (fx_102 h) hi'
theorem an_102 (h : FX D hi) : aNS (mkS h0 B D c e hi z) (B + 102) = some 60 := aN_mk (fx_lt h (by decide)) (fx_102 h)
theorem ai_103 (h : FX D hi) {i : Int32} (hi' : pm_in i 60 = true) : aI [0, 6] (mkS h0 B D c e hi z) (B + 103) i = some (c 103 i.toNatClampNeg) := aI_mk (fx_lt h (by decide)) (fx_103 h) hi'
theorem si_103 (h : FX D hi) {i x : Int32} (hi' : pm_in i 60 = true) : sI [0] (mkS h0 B D c e hi z) (B + 103) i x = some (mkS h0 B D (up1 c 103 (upd (c 103) i.toNatClampNeg x)) e hi z) := sI_mk (fx_lt h (by decide)) (fx_103 h) hi'
theorem an_103 (h : FX D hi) : aNS (mkS h0 B D c e hi z) (B + 103) = some 60 := aN_mk (fx_lt h (by decide)) (fx_103 h)
theorem ai_104 (h : FX D hi) {i : Int32} (hi' : pm_in i 60 = true) : aI [0, 6] (mkS h0 B D c e hi z) (B + 104) i = some (c 104 i.toNatClampNeg) := aI_mk (fx_lt h (by decide)) (fx_104 h) hi'
theorem si_104 (h : FX D hi) {i x : Int32} (hi' : pm_in i 60 = true) : sI [0] (mkS h0 B D c e hi z) (B + 104) i x = some (mkS h0 B D (up1 c 104 (upd (c 104) i.toNatClampNeg x)) e hi z) := sI_mk (fx_lt h (by decide)) (fx_104 h) hi'
theorem an_104 (h : FX D hi) : aNS (mkS h0 B D c e hi z) (B + 104) = some 60 := aN_mk (fx_lt h (by decide)) (fx_104 h)
theorem ai_105 (h : FX D hi) {i : Int32} (hi' : pm_in i 60 = true) : aI [0, 6] (mkS h0 B D c e hi z) (B + 105) i = some (c 105 i.toNatClampNeg) := aI_mk (fx_lt h (by decide)) (fx_105 h) hi'
theorem si_105 (h : FX D hi) {i x : Int32} (hi' : pm_in i 60 = true) : sI [0] (mkS h0 B D c e hi z) (B + 105) i x = some (mkS h0 B D (up1 c 105 (upd (c 105) i.toNatClampNeg x)) e hi z) := sI_mk (fx_lt h (by decide)) (fx_105 h) hi'
theorem an_105 (h : FX D hi) : aNS (mkS h0 B D c e hi z) (B + 105) = some 60 := aN_mk (fx_lt h (by decide)) (fx_105 h)
theorem ai_106 (h : FX D hi) {i : Int32} (hi' : pm_in i 42 = true) : aI [0, 6] (mkS h0 B D c e hi z) (B + 106) i = some (c 106 i.toNatClampNeg) := aI_mk (fx_lt h (by decide)) (fx_106 h) hi'
theorem si_106 (h : FX D hi) {i x : Int32} (hi' : pm_in i 42 = true) : sI [0] (mkS h0 B D c e hi z) (B + 106) i x = some (mkS h0 B D (up1 c 106 (upd (c 106) i.toNatClampNeg x)) e hi z) := sI_mk (fx_lt h (by decide)) (fx_106 h) hi'
theorem an_106 (h : FX D hi) : aNS (mkS h0 B D c e hi z) (B + 106) = some 42 := aN_mk (fx_lt h (by decide)) (fx_106 h)
theorem ai_107 (h : FX D hi) {i : Int32} (hi' : pm_in i 42 = true) : aI [0, 6] (mkS h0 B D c e hi z) (B + 107) i = some (c 107 i.toNatClampNeg) := aI_mk (fx_lt h (by decide)) (fx_107 h) hi'
theorem si_107 (h : FX D hi) {i x : Int32} (hi' : pm_in i 42 = true) : sI [0] (mkS h0 B D c e hi z) (B + 107) i x = some (mkS h0 B D (up1 c 107 (upd (c 107) i.toNatClampNeg x)) e hi z) := sI_mk (fx_lt h (by decide)) (fx_107 h) hi'
theorem an_107 (h : FX D hi) : aNS (mkS h0 B D c e hi z) (B + 107) = some 42 := aN_mk (fx_lt h (by decide)) (fx_107 h)
theorem ai_108 (h : FX D hi) {i : Int32} (hi' : pm_in i 42 = true) : aI [0, 6] (mkS h0 B D c e hi z) (B + 108) i = some (c 108 i.toNatClampNeg) := aI_mk (fx_lt h (by decide)) (fx_108 h) hi'
theorem si_108 (h : FX D hi) {i x : Int32} (hi' : pm_in i 42 = true) : sI [0] (mkS h0 B D c e hi z) (B + 108) i x = some (mkS h0 B D (up1 c 108 (upd (c 108) i.toNatClampNeg x)) e hi z) := sI_mk (fx_lt h (by decide)) (fx_108 h) hi'
theorem an_108 (h : FX D hi) : aNS (mkS h0 B D c e hi z) (B + 108) = some 42 := aN_mk (fx_lt h (by decide)) (fx_108 h)
theorem ai_109 (h : FX D hi) {i : Int32} (hi' : pm_in i 462 = true) : aI [2, 3] (mkS h0 B D c e hi z) (B + 109) i = some (c 109 i.toNatClampNeg) := aB_mk (fx_lt h (by decide)) (by decide) (fx_109 h) hi'
theorem si_109 (h : FX D hi) {i x : Int32} (hi' : pm_in i 462 = true) : sI [2, 3] (mkS h0 B D c e hi z) (B + 109) i x = some (mkS h0 B D (up1 c 109 (upd (c 109) i.toNatClampNeg (pm_nar 3 x))) e hi z) := sB_mk (fx_lt h (by decide)) (by decide) (fx_109 h) hi'
theorem aj_110 (h : FX D hi) {i : Int32} (hi' : pm_in i 10 = true) : aJ (mkS h0 B D c e hi z) (B + 110) i = some (e 110 i.toNatClampNeg) := aJ_mk (fx_lt h (by decide)) (fx_110 h) hi'
theorem sj_110 (h : FX D hi) {i : Int32} {x : Int64} (hi' : pm_in i 10 = true) : sJ (mkS h0 B D c e hi z) (B + 110) i x = some (mkS h0 B D c (up1 e 110 (vp_updL (e 110) i.toNatClampNeg x)) hi z) := sJ_mk (fx_lt h (by decide)) (fx_110 h) hi'
theorem ai_111 (h : FX D hi) {i : Int32} (hi' : pm_in i 7 = true) : aI [0, 6] (mkS h0 B D c e hi z) (B + 111) i = some (c 111 i.toNatClampNeg) := aI_mk (fx_lt h (by decide)) (fx_111 h) hi'
theorem si_111 (h : FX D hi) {i x : Int32} (hi' : pm_in i 7 = true) : sI [0] (mkS h0 B D c e hi z) (B + 111) i x = some (mkS h0 B D (up1 c 111 (upd (c 111) i.toNatClampNeg x)) e hi z) := sI_mk (fx_lt h (by decide)) (fx_111 h) hi'
theorem an_111 (h : FX D hi) : aNS (mkS h0 B D c e hi z) (B + 111) = some 7 := aN_mk (fx_lt h (by decide)) (fx_111 h)
theorem ai_112 (h : FX D hi) {i : Int32} (hi' : pm_in i 72 = true) : aI [0, 6] (mkS h0 B D c e hi z) (B + 112) i = some (c 112 i.toNatClampNeg) := aI_mk (fx_lt h (by decide)) (fx_112 h) hi'
theorem si_112 (h : FX D hi) {i x : Int32} (hi' : pm_in i 72 = true) : sI [0] (mkS h0 B D c e hi z) (B + 112) i x = some (mkS h0 B D (up1 c 112 (upd (c 112) i.toNatClampNeg x)) e hi z) := sI_mk (fx_lt h (by decide)) (fx_112 h) hi'
theorem an_112 (h : FX D hi) : aNS (mkS h0 B D c e hi z) (B + 112) = some 72 := aN_mk (fx_lt h (by decide)) (fx_112 h)
theorem ai_113 (h : FX D hi) {i : Int32} (hi' : pm_in i 72 = true) : aI [0, 6] (mkS h0 B D c e hi z) (B + 113) i = some (c 113 i.toNatClampNeg) := aI_mk (fx_lt h (by decide)) (fx_113 h) hi'
theorem si_113 (h : FX D hi) {i x : Int32} (hi' : pm_in i 72 = true) : sI [0] (mkS h0 B D c e hi z) (B + 113) i x = some (mkS h0 B D (up1 c 113 (upd (c 113) i.toNatClampNeg x)) e hi z) := sI_mk (fx_lt h (by decide)) (fx_113 h) hi'
theorem an_113 (h : FX D hi) : aNS (mkS h0 B D c e hi z) (B + 113) = some 72 := aN_mk (fx_lt h (by decide)) (fx_113 h)
theorem ai_114 (h : FX D hi) {i : Int32} (hi' : pm_in i 72 = true) : aI [0, 6] (mkS h0 B D c e hi z) (B + 114) i = some (c 114 i.toNatClampNeg) := aI_mk (fx_lt h (by decide)) (fx_114 h) hi'
theorem si_114 (h : FX D hi) {i x : Int32} (hi' : pm_in i 72 = true) : sI [0] (mkS h0 B D c e hi z) (B + 114) i x = some (mkS h0 B D (up1 c 114 (upd (c 114) i.toNatClampNeg x)) e hi z) := sI_mk (fx_lt h (by decide)) (fx_114 h) hi'
theorem an_114 (h : FX D hi) : aNS (mkS h0 B D c e hi z) (B + 114) = some 72 := aN_mk (fx_lt h (by decide)) (fx_114 h)
theorem ai_115 (h : FX D hi) {i : Int32} (hi' : pm_in i 72 = true) : aI [0, 6] (mkS h0 B D c e hi z) (B + 115) i = some (c 115 i.toNatClampNeg) := aI_mk (fx_lt h (by decide)) (fx_115 h) hi'
theorem si_115 (h : FX D hi) {i x : Int32} (hi' : pm_in i 72 = true) : sI [0] (mkS h0 B D c e hi z) (B + 115) i x = some (mkS h0 B D (up1 c 115 (upd (c 115) i.toNatClampNeg x)) e hi z) := sI_mk (fx_lt h (by decide)) (fx_115 h) hi'
theorem an_115 (h : FX D hi) : aNS (mkS h0 B D c e hi z) (B + 115) = some 72 := aN_mk (fx_lt h (by decide)) (fx_115 h)
theorem ai_116 (h : FX D hi) {i : Int32} (hi' : pm_in i 72 = true) : aI [0, 6] (mkS h0 B D c e hi z) (B + 116) i = some (c 116 i.toNatClampNeg) := aI_mk (fx_lt h (by decide)) (fx_116 h) hi'
theorem si_116 (h : FX D hi) {i x : Int32} (hi' : pm_in i 72 = true) : sI [0] (mkS h0 B D c e hi z) (B + 116) i x = some (mkS h0 B D (up1 c 116 (upd (c 116) i.toNatClampNeg x)) e hi z) := sI_mk (fx_lt h (by decide)) (fx_116 h) hi'
theorem an_116 (h : FX D hi) : aNS (mkS h0 B D c e hi z) (B + 116) = some 72 := aN_mk (fx_lt h (by decide)) (fx_116 h)
theorem ai_117 (h : FX D hi) {i : Int32} (hi' : pm_in i 72 = true) : aI [0, 6] (mkS h0 B D c e hi z) (B + 117) i = some (c 117 i.toNatClampNeg) := aI_mk (fx_lt h (by decide)) (fx_117 h) hi'
theorem si_117 (h : FX D hi) {i x : Int32} (hi' : pm_in i 72 = true) : sI [0] (mkS h0 B D c e hi z) (B + 117) i x = some (mkS h0 B D (up1 c 117 (upd (c 117) i.toNatClampNeg x)) e hi z) := sI_mk (fx_lt h (by decide)) (fx_117 h) hi'
theorem an_117 (h : FX D hi) : aNS (mkS h0 B D c e hi z) (B + 117) = some 72 := aN_mk (fx_lt h (by decide)) (fx_117 h)
theorem ai_118 (h : FX D hi) {i : Int32} (hi' : pm_in i 7 = true) : aI [0, 6] (mkS h0 B D c e hi z) (B + 118) i = some (c 118 i.toNatClampNeg) := aI_mk (fx_lt h (by decide)) (fx_118 h) hi'
theorem si_118 (h : FX D hi) {i x : Int32} (hi' : pm_in i 7 = true) : sI [0] (mkS h0 B D c e hi z) (B + 118) i x = some (mkS h0 B D (up1 c 118 (upd (c 118) i.toNatClampNeg x)) e hi z) := sI_mk (fx_lt h (by decide)) (fx_118 h) hi'
theorem an_118 (h : FX D hi) : aNS (mkS h0 B D c e hi z) (B + 118) = some 7 := aN_mk (fx_lt h (by decide)) (fx_118 h)
theorem ai_119 (h : FX D hi) {i : Int32} (hi' : pm_in i 144 = true) : aI [0, 6] (mkS h0 B D c e hi z) (B + 119) i = some (c 119 i.toNatClampNeg) := aI_mk (fx_lt h (by decide)) (fx_119 h) hi'
theorem si_119 (h : FX D hi) {i x : Int32} (hi' : pm_in i 144 = true) : sI [0] (mkS h0 B D c e hi z) (B + 119) i x = some (mkS h0 B D (up1 c 119 (upd (c 119) i.toNatClampNeg x)) e hi z) := sI_mk (fx_lt h (by decide)) (fx_119 h) hi'
theorem an_119 (h : FX D hi) : aNS (mkS h0 B D c e hi z) (B + 119) = some 144 := aN_mk (fx_lt h (by decide)) (fx_119 h)
theorem ai_120 (h : FX D hi) {i : Int32} (hi' : pm_in i 144 = true) : aI [0, 6] (mkS h0 B D c e hi z) (B + 120) i = some (c 120 i.toNatClampNeg) := aI_mk (fx_lt h (by decide)) (fx_120 h) hi'
theorem si_120 (h : FX D hi) {i x : Int32} (hi' : pm_in i 144 = true) : sI [0] (mkS h0 B D c e hi z) (B + 120) i x = some (mkS h0 B D (up1 c 120 (upd (c 120) i.toNatClampNeg x)) e hi z) := sI_mk (fx_lt h (by decide)) (fx_120 h) hi'
theorem an_120 (h : FX D hi) : aNS (mkS h0 B D c e hi z) (B + 120) = some 144 := aN_mk (fx_lt h (by decide)) (fx_120 h)
theorem ai_121 (h : FX D hi) {i : Int32} (hi' : pm_in i 144 = true) : aI [2, 3] (mkS h0 B D c e hi z) (B + 121) i = some (c 121 i.toNatClampNeg) := aB_mk (fx_lt h (by decide)) (by decide) (fx_121 h) hi'
theorem si_121 (h : FX D hi) {i x : Int32} (hi' : pm_in i 144 = true) : sI [2, 3] (mkS h0 B D c e hi z) (B + 121) i x = some (mkS h0 B D (up1 c 121 (upd (c 121) i.toNatClampNeg (pm_nar 3 x))) e hi z) := sB_mk (fx_lt h (by decide)) (by decide) (fx_121 h) hi'
theorem ai_122 (h : FX D hi) {i : Int32} (hi' : pm_in i 1024 = true) : aI [2, 3] (mkS h0 B D c e hi z) (B + 122) i = some (c 122 i.toNatClampNeg) := aB_mk (fx_lt h (by decide)) (by decide) (fx_122 h) hi'
theorem si_122 (h : FX D hi) {i x : Int32} (hi' : pm_in i 1024 = true) : sI [2, 3] (mkS h0 B D c e hi z) (B + 122) i x = some (mkS h0 B D (up1 c 122 (upd (c 122) i.toNatClampNeg (pm_nar 3 x))) e hi z) := sB_mk (fx_lt h (by decide)) (by decide) (fx_122 h) hi'
theorem ai_123 (h : FX D hi) {i : Int32} (hi' : pm_in i 1024 = true) : aI [0, 6] (mkS h0 B D c e hi z) (B + 123) i = some (c 123 i.toNatClampNeg) := aI_mk (fx_lt h (by decide)) (fx_123 h) hi'
theorem si_123 (h : FX D hi) {i x : Int32} (hi' : pm_in i 1024 = true) : sI [0] (mkS h0 B D c e hi z) (B + 123) i x = some (mkS h0 B D (up1 c 123 (upd (c 123) i.toNatClampNeg x)) e hi z) := sI_mk (fx_lt h (by decide)) (fx_123 h) hi'
theorem an_123 (h : FX D hi) : aNS (mkS h0 B D c e hi z) (B + 123) = some 1024 := aN_mk (fx_lt h (by decide)) (fx_123 h)
theorem ai_124 (h : FX D hi) {i : Int32} (hi' : pm_in i 1024 = true) : aI [0, 6] (mkS h0 B D c e hi z) (B + 124) i = some (c 124 i.toNatClampNeg) := aI_mk (fx_lt h (by decide)) (fx_124 h) hi'
theorem si_124 (h : FX D hi) {i x : Int32} (hi' : pm_in i 1024 = true) : sI [0] (mkS h0 B D c e hi z) (B + 124) i x = some (mkS h0 B D (up1 c 124 (upd (c 124) i.toNatClampNeg x)) e hi z) := sI_mk (fx_lt h (by decide)) (fx_124 h) hi'
theorem an_124 (h : FX D hi) : aNS (mkS h0 B D c e hi z) (B + 124) = some 1024 := aN_mk (fx_lt h (by decide)) (fx_124 h)
theorem ai_125 (h : FX D hi) {i : Int32} (hi' : pm_in i 70 = true) : aI [0, 6] (mkS h0 B D c e hi z) (B + 125) i = some (c 125 i.toNatClampNeg) := aI_mk (fx_lt h (by decide)) (fx_125 h) hi'
theorem si_125 (h : FX D hi) {i x : Int32} (hi' : pm_in i 70 = true) : sI [0] (mkS h0 B D c e hi z) (B + 125) i x = some (mkS h0 B D (up1 c 125 (upd (c 125) i.toNatClampNeg x)) e hi z) := sI_mk (fx_lt h (by decide)) (fx_125 h) hi'
theorem an_125 (h : FX D hi) : aNS (mkS h0 B D c e hi z) (B + 125) = some 70 := aN_mk (fx_lt h (by decide)) (fx_125 h)
theorem ai_126 (h : FX D hi) {i : Int32} (hi' : pm_in i 6 = true) : aI [2, 3] (mkS h0 B D c e hi z) (B + 126) i = some (c 126 i.toNatClampNeg) := aB_mk (fx_lt h (by decide)) (by decide) (fx_126 h) hi'
theorem si_126 (h : FX D hi) {i x : Int32} (hi' : pm_in i 6 = true) : sI [2, 3] (mkS h0 B D c e hi z) (B + 126) i x = some (mkS h0 B D (up1 c 126 (upd (c 126) i.toNatClampNeg (pm_nar 3 x))) e hi z) := sB_mk (fx_lt h (by decide)) (by decide) (fx_126 h) hi'
theorem ai_127 (h : FX D hi) {i : Int32} (hi' : pm_in i 10 = true) : aI [2, 3] (mkS h0 B D c e hi z) (B + 127) i = some (c 127 i.toNatClampNeg) := aB_mk (fx_lt h (by decide)) (by decide) (fx_127 h) hi'
theorem si_127 (h : FX D hi) {i x : Int32} (hi' : pm_in i 10 = true) : sI [2, 3] (mkS h0 B D c e hi z) (B + 127) i x = some (mkS h0 B D (up1 c 127 (upd (c 127) i.toNatClampNeg (pm_nar 3 x))) e hi z) := sB_mk (fx_lt h (by decide)) (by decide) (fx_127 h) hi'
theorem ai_128 (h : FX D hi) {i : Int32} (hi' : pm_in i 26 = true) : aI [0, 6] (mkS h0 B D c e hi z) (B + 128) i = some (c 128 i.toNatClampNeg) := aI_mk (fx_lt h (by decide)) (fx_128 h) hi'
theorem si_128 (h : FX D hi) {i x : Int32} (hi' : pm_in i 26 = true) : sI [0] (mkS h0 B D c e hi z) (B + 128) i x = some (mkS h0 B D (up1 c 128 (upd (c 128) i.toNatClampNeg x)) e hi z) := sI_mk (fx_lt h (by decide)) (fx_128 h) hi'
theorem an_128 (h : FX D hi) : aNS (mkS h0 B D c e hi z) (B + 128) = some 26 := aN_mk (fx_lt h (by decide)) (fx_128 h)
theorem aj_129 (h : FX D hi) {i : Int32} (hi' : pm_in i 1 = true) : aJ (mkS h0 B D c e hi z) (B + 129) i = some (e 129 i.toNatClampNeg) := aJ_mk (fx_lt h (by decide)) (fx_129 h) hi'
theorem sj_129 (h : FX D hi) {i : Int32} {x : Int64} (hi' : pm_in i 1 = true) : sJ (mkS h0 B D c e hi z) (B + 129) i x = some (mkS h0 B D c (up1 e 129 (vp_updL (e 129) i.toNatClampNeg x)) hi z) := sJ_mk (fx_lt h (by decide)) (fx_129 h) hi'
end FXS
