/-! ===== the class's cells that are not fixed: rows, ledgers, layouts, plans ===== -/
def AR (D : Nat → pd) (hi k n : Nat) : Prop := k < hi ∧ D k = .inl (0, n) ∧ n < 2 ^ 31
def LG (D : Nat → pd) (hi L n : Nat) : Prop := L < hi ∧ D L = .inr (2, [(1, L + 1), (0, 0), (0, 0)]) ∧ AR D hi (L + 1) n
def LT (D : Nat → pd) (hi Y : Nat) : Prop := Y < hi ∧ D Y = .inr (1, [(1, Y + 1), (1, Y + 2), (1, Y + 3), (1, Y + 4)]) ∧ AR D hi (Y + 1) 56 ∧ AR D hi (Y + 2) 56 ∧ AR D hi (Y + 3) 56 ∧ AR D hi (Y + 4) 10
def PL (D : Nat → pd) (hi P : Nat) : Prop := P < hi ∧ D P = .inr (4, [(0, 0), (1, P + 1), (1, P + 3), (1, P + 4), (1, P + 5), (1, P + 10), (1, P + 15), (1, P + 17), (1, P + 19), (1, P + 21), (1, P + 23), (1, P + 24)]) ∧ LG D hi (P + 1) 35 ∧ AR D hi (P + 3) 8 ∧ AR D hi (P + 4) 7 ∧ LT D hi (P + 5) ∧ LT D hi (P + 10) ∧ LG D hi (P + 15) 30 ∧ LG D hi (P + 17) 50 ∧ LG D hi (P + 19) 60 ∧ LG D hi (P + 21) 120 ∧ AR D hi (P + 23) 10 ∧ (P + 24 < hi ∧ D (P + 24) = .inr (5, [(1, P + 25), (1, P + 26), (0, 0), (0, 0), (0, 0)])) ∧ (P + 25 < hi ∧ D (P + 25) = .inl (5, 24)) ∧ AR D hi (P + 26) 1024
/-- a row is written through setAt -/
def ws (s : mst) (k n : Nat) (i x : Int32) : mst := (up1 s.1 k (vset n (s.1 k) i x), s.2)
section CL1
variable {h0 : Nat → pm_C} {B : Nat} {D : Nat → pd} {hi z : Nat} {s : mst} {N k n L Y P : Nat} {i x : Int32}
theorem ar_n (h : AR D hi k n) : aNS (mkM h0 B D hi z s) (B + k) = some (nI n) := aN_mk h.1 h.2.1
theorem ar_a (h : AR D hi k n) {j : Nat} (hj : j < n) : aI [0, 6] (mkM h0 B D hi z s) (B + k) (nI j) = some (s.1 k j) := by
  have := aI_mk (h0 := h0) (B := B) (c := s.1) (e := s.2) (z := z) h.1 h.2.1 (pmin hj h.2.2)
  rw [nI_clamp (by have := h.2.2; omega)] at this
  exact this
theorem ar_v (h : AR D hi k n) : F_BP_valueAt N (mkM h0 B D hi z s) (B + k) i = some (vat n (s.1 k) i, (mkM h0 B D hi z s)) := valueAt_mk h.1 h.2.1 h.2.2
theorem ar_s (h : AR D hi k n) : F_BP_setAt N (mkM h0 B D hi z s) (B + k) i x = some (mkM h0 B D hi z (ws s k n i x)) := setAt_mk h.1 h.2.1 h.2.2
theorem ar_w (h : AR D hi k n) {j : Nat} (hj : j < n) : sI [0] (mkM h0 B D hi z s) (B + k) (nI j) x = some (mkM h0 B D hi z (wr1 s k j x)) := by
  have := sI_mk (h0 := h0) (B := B) (c := s.1) (e := s.2) (z := z) h.1 h.2.1 (x := x) (pmin hj h.2.2)
  rw [nI_clamp (by have := h.2.2; omega)] at this
  exact this
theorem ws_nI {j : Nat} (hj : j < n) (hn : n < 2 ^ 31) : ws s k n (nI j) x = wr1 s k j x := by
  unfold ws wr1
  rw [vset_nI hj hn]
theorem ws_n1 : ws s k n (-1) x = s := by
  unfold ws
  rw [vset_n1, up1_self]
theorem ws_cd {v : Nat} (hv : v ≤ n) (hn : n < 2 ^ 31) : ws s k n (cd v) x = if v = 0 then s else wr1 s k (v - 1) x := by
  cases v with
  | zero => rw [cd_0, ws_n1, if_pos rfl]
  | succ v => rw [cd_s, ws_nI hv hn, if_neg (by omega), Nat.add_sub_cancel]
theorem lg_rc (h : LG D hi L n) : rcv (mkM h0 B D hi z s) (B + L) 2 = true := rcv_mk h.1 h.2.1
theorem lg_0 (h : LG D hi L n) : oR (mkM h0 B D hi z s) (B + L) 2 0 = some (some (B + (L + 1))) := oR_mk h.1 h.2.1 (v := L + 1) rfl
theorem lg_1 (h : LG D hi L n) : oI (mkM h0 B D hi z s) (B + L) 2 1 = some (s.1 L 1) := oI_mk h.1 h.2.1 (v := 0) rfl
theorem lg_2 (h : LG D hi L n) : oI (mkM h0 B D hi z s) (B + L) 2 2 = some (s.1 L 2) := oI_mk h.1 h.2.1 (v := 0) rfl
theorem lg_w (h : LG D hi L n) : wF (mkM h0 B D hi z s) (B + L) 2 2 .int (.int x) = some (mkM h0 B D hi z (wr1 s L 2 x)) := wI_mk h.1 h.2.1 (v := 0) rfl
theorem yt_rc (h : LT D hi Y) : rcv (mkM h0 B D hi z s) (B + Y) 1 = true := rcv_mk h.1 h.2.1
theorem yt_0 (h : LT D hi Y) : oR (mkM h0 B D hi z s) (B + Y) 1 0 = some (some (B + (Y + 1))) := oR_mk h.1 h.2.1 (v := Y + 1) rfl
theorem yt_1 (h : LT D hi Y) : oR (mkM h0 B D hi z s) (B + Y) 1 1 = some (some (B + (Y + 2))) := oR_mk h.1 h.2.1 (v := Y + 2) rfl
theorem yt_2 (h : LT D hi Y) : oR (mkM h0 B D hi z s) (B + Y) 1 2 = some (some (B + (Y + 3))) := oR_mk h.1 h.2.1 (v := Y + 3) rfl
theorem yt_3 (h : LT D hi Y) : oR (mkM h0 B D hi z s) (B + Y) 1 3 = some (some (B + (Y + 4))) := oR_mk h.1 h.2.1 (v := Y + 4) rfl
theorem pl_rc (h : PL D hi P) : rcv (mkM h0 B D hi z s) (B + P) 4 = true := rcv_mk h.1 h.2.1
theorem pl_0 (h : PL D hi P) : oI (mkM h0 B D hi z s) (B + P) 4 0 = some (s.1 P 0) := oI_mk h.1 h.2.1 (v := 0) rfl
theorem pl_w0 (h : PL D hi P) : wF (mkM h0 B D hi z s) (B + P) 4 0 .int (.int x) = some (mkM h0 B D hi z (wr1 s P 0 x)) := wI_mk h.1 h.2.1 (v := 0) rfl
theorem pl_1 (h : PL D hi P) : oR (mkM h0 B D hi z s) (B + P) 4 1 = some (some (B + (P + 1))) := oR_mk h.1 h.2.1 (v := P + 1) rfl
theorem pl_2 (h : PL D hi P) : oR (mkM h0 B D hi z s) (B + P) 4 2 = some (some (B + (P + 3))) := oR_mk h.1 h.2.1 (v := P + 3) rfl
theorem pl_3 (h : PL D hi P) : oR (mkM h0 B D hi z s) (B + P) 4 3 = some (some (B + (P + 4))) := oR_mk h.1 h.2.1 (v := P + 4) rfl
theorem pl_4 (h : PL D hi P) : oR (mkM h0 B D hi z s) (B + P) 4 4 = some (some (B + (P + 5))) := oR_mk h.1 h.2.1 (v := P + 5) rfl
theorem pl_5 (h : PL D hi P) : oR (mkM h0 B D hi z s) (B + P) 4 5 = some (some (B + (P + 10))) := oR_mk h.1 h.2.1 (v := P + 10) rfl
theorem pl_6 (h : PL D hi P) : oR (mkM h0 B D hi z s) (B + P) 4 6 = some (some (B + (P + 15))) := oR_mk h.1 h.2.1 (v := P + 15) rfl
theorem pl_7 (h : PL D hi P) : oR (mkM h0 B D hi z s) (B + P) 4 7 = some (some (B + (P + 17))) := oR_mk h.1 h.2.1 (v := P + 17) rfl
theorem pl_8 (h : PL D hi P) : oR (mkM h0 B D hi z s) (B + P) 4 8 = some (some (B + (P + 19))) := oR_mk h.1 h.2.1 (v := P + 19) rfl
theorem pl_9 (h : PL D hi P) : oR (mkM h0 B D hi z s) (B + P) 4 9 = some (some (B + (P + 21))) := oR_mk h.1 h.2.1 (v := P + 21) rfl
theorem pl_10 (h : PL D hi P) : oR (mkM h0 B D hi z s) (B + P) 4 10 = some (some (B + (P + 23))) := oR_mk h.1 h.2.1 (v := P + 23) rfl
theorem pl_11 (h : PL D hi P) : oR (mkM h0 B D hi z s) (B + P) 4 11 = some (some (B + (P + 24))) := oR_mk h.1 h.2.1 (v := P + 24) rfl
theorem pl_L1 (h : PL D hi P) : LG D hi (P + 1) 35 := h.2.2.1
theorem pl_A3 (h : PL D hi P) : AR D hi (P + 3) 8 := h.2.2.2.1
theorem pl_A4 (h : PL D hi P) : AR D hi (P + 4) 7 := h.2.2.2.2.1
theorem pl_T5 (h : PL D hi P) : LT D hi (P + 5) := h.2.2.2.2.2.1
theorem pl_T10 (h : PL D hi P) : LT D hi (P + 10) := h.2.2.2.2.2.2.1
theorem pl_L15 (h : PL D hi P) : LG D hi (P + 15) 30 := h.2.2.2.2.2.2.2.1
theorem pl_L17 (h : PL D hi P) : LG D hi (P + 17) 50 := h.2.2.2.2.2.2.2.2.1
theorem pl_L19 (h : PL D hi P) : LG D hi (P + 19) 60 := h.2.2.2.2.2.2.2.2.2.1
theorem pl_L21 (h : PL D hi P) : LG D hi (P + 21) 120 := h.2.2.2.2.2.2.2.2.2.2.1
theorem pl_A23 (h : PL D hi P) : AR D hi (P + 23) 10 := h.2.2.2.2.2.2.2.2.2.2.2.1
theorem pl_A26 (h : PL D hi P) : AR D hi (P + 26) 1024 := h.2.2.2.2.2.2.2.2.2.2.2.2.2.2
/-! ===== ledgers ===== -/
theorem c_size (h : LG D hi L n) : F_Ledger_size N (mkM h0 B D hi z s) (B + L) = some (s.1 L 2, (mkM h0 B D hi z s)) := by
  simp only [F_Ledger_size, lg_rc h, lg_2 h, Option.bind_some, Option.map_some, Option.bind_none, if_true, if_false]
theorem c_has_t {c j : Nat} (h : LG D hi L n) (hc : s.1 L 2 = nI c) (h1 : c < 2 ^ 31) (hj : j < c) : F_Ledger_has N (mkM h0 B D hi z s) (B + L) (nI j) = some (1, (mkM h0 B D hi z s)) := by
  unfold F_Ledger_has F_Ledger_has_17
  rw [lg_rc h, if_pos rfl, if_neg (nI_pos (by omega)), lg_2 h, Option.bind_some, hc, if_neg (nI_ge hj h1), if_pos (Or.inr rfl)]
theorem c_has_f {c : Nat} (h : LG D hi L n) (hc : s.1 L 2 = nI c) (h1 : c < 2 ^ 31) (hj : ¬ okn c i) : F_Ledger_has N (mkM h0 B D hi z s) (B + L) i = some (0, (mkM h0 B D hi z s)) := by
  unfold F_Ledger_has F_Ledger_has_16 F_Ledger_has_17
  rw [lg_rc h, if_pos rfl, lg_2 h, Option.bind_some, hc]
  rcases okn_not h1 hj with h2 | h2
  · rw [if_pos h2, if_pos (Or.inl rfl)]
  · by_cases h3 : i < 0
    · rw [if_pos h3, if_pos (Or.inl rfl)]
    · rw [if_neg h3, if_pos h2, if_pos (Or.inl rfl)]
theorem c_at {c j q : Nat} (h : LG D hi L n) (hc : s.1 L 2 = nI c) (hcn : 5 * c ≤ n) (hj : j < c) (hq : q < 5) : F_Ledger_at N (mkM h0 B D hi z s) (B + L) (nI j) (nI q) = some (s.1 (L + 1) (5 * j + q), (mkM h0 B D hi z s)) := by
  have hn := h.2.2.2.2
  unfold F_Ledger_at F_Ledger_at_32 F_Ledger_at_62
  rw [lg_rc h, if_pos rfl, if_neg (nI_pos (by omega)), lg_2 h, Option.bind_some, hc, if_neg (nI_ge hj (by omega)), if_neg (nI_pos (by omega)), L_5, if_neg (nI_ge hq (by omega)), if_neg (by decide), nI_mul, nI_add, if_neg (nI_pos (by omega)), lg_0 h]
  dsimp only [Option.bind_some]
  rw [ar_n h.2.2]
  dsimp only [Option.bind_some]
  rw [if_neg (nI_ge (show 5 * j + q < n by omega) hn), ar_a h.2.2 (show 5 * j + q < n by omega)]
  rfl
theorem c_at_f {c : Nat} {q : Int32} (h : LG D hi L n) (hc : s.1 L 2 = nI c) (h1 : c < 2 ^ 31) (hj : ¬ okn c i) : F_Ledger_at N (mkM h0 B D hi z s) (B + L) i q = some (-1, (mkM h0 B D hi z s)) := by
  unfold F_Ledger_at F_Ledger_at_31 F_Ledger_at_32 F_Ledger_at_61 F_Ledger_at_62
  rw [lg_rc h, if_pos rfl, lg_2 h, Option.bind_some, hc]
  rcases okn_not h1 hj with h2 | h2
  · rw [if_pos h2, if_pos rfl]
  · by_cases h3 : i < 0
    · rw [if_pos h3, if_pos rfl]
    · rw [if_neg h3, if_pos h2, if_pos rfl]
theorem wr1_self (hx : s.1 k n = x) : wr1 s k n x = s := by
  have : upd (s.1 k) n x = s.1 k := by
    funext q
    rw [upd_g]
    split
    · rename_i e; rw [e, hx]
    · rfl
  unfold wr1
  rw [this, up1_self]
/-- a row more in a ledger -/
def ladd (s : mst) (L c : Nat) (p0 p1 p2 p3 p4 : Int32) : mst := wr1 (wr1 (wr1 (wr1 (wr1 (wr1 s (L + 1) (5 * c) p0) (L + 1) (5 * c + 1) p1) (L + 1) (5 * c + 2) p2) (L + 1) (5 * c + 3) p3) (L + 1) (5 * c + 4) p4) L 2 (nI (c + 1))
theorem c_add {c m : Nat} {p0 p1 p2 p3 p4 : Int32} (h : LG D hi L n) (hc : s.1 L 2 = nI c) (hm : s.1 L 1 = nI m) (hcm : c < m) (hmn : 5 * m ≤ n) : F_Ledger_add N (mkM h0 B D hi z s) (B + L) p0 p1 p2 p3 p4 = some (nI c, (mkM h0 B D hi z (ladd s L c p0 p1 p2 p3 p4))) := by
  have hn := h.2.2.2.2
  have e2 : ∀ (s' : mst) (j : Nat) (y : Int32), (wr1 s' (L + 1) j y).1 L 2 = s'.1 L 2 := fun s' j y => by rw [wr1_ne (by omega)]
  unfold F_Ledger_add ladd
  simp (disch := omega) only [lg_rc h, lg_0 h, lg_1 h, lg_2 h, lg_w h, ar_s h.2.2, ws_nI, L_0, L_1, L_2, L_3, L_4, L_5, L_6, L_7, L_8, L_9, L_10, L_11, L_12, L_15, L_16, L_20, L_24, L_26, L_31, L_32, L_42, L_48, L_56, L_57, L_59, L_60, L_97, L_98, L_99, L_104, L_106, L_255, L_300, L_462, L_616, neg1, nI_add, nI_mul, pk_div, pk_sub, nI_or, nI_shr, nI_shl, nI_and1, nI_leI, nI_ltI, nI_eq, cd_eq, cd_nI, nI_cd, rdA_nI, stA_nI, wrI_1, Option.bind_some, Option.map_some, Option.bind_none, if_true, if_false, hc, hm, e2, wr1_at]
  rw [if_pos hcm, Nat.add_sub_cancel]
theorem c_add_f {c m : Nat} {p0 p1 p2 p3 p4 : Int32} (h : LG D hi L n) (hc : s.1 L 2 = nI c) (hm : s.1 L 1 = nI m) (hcm : m ≤ c) (hc2 : c < 2 ^ 31) : F_Ledger_add N (mkM h0 B D hi z s) (B + L) p0 p1 p2 p3 p4 = some (-1, (mkM h0 B D hi z s)) := by
  unfold F_Ledger_add
  rw [lg_rc h, if_pos rfl, lg_2 h, Option.bind_some, lg_1 h, Option.bind_some, hc, hm, if_neg (nI_nlt hcm hc2)]
/-! ===== layouts ===== -/
/-- the layout at Y is L -/
def CL (s : mst) (Y : Nat) (L : LY) : Prop := (∀ u, u < 56 → s.1 (Y + 1) u = cd (L.1 u) ∧ s.1 (Y + 2) u = cd (q_ff L.1 (u + 1) 56) ∧ s.1 (Y + 3) u = cd (L.2 u)) ∧ ∀ h, h < 10 → s.1 (Y + 4) h = cd (q_ff L.2 (h + 1) 56)
theorem q_ff_jn {A : AP} (hA : WF A) {o : Nat → Nat} (h : LJ A o) {x y u : Nat} (hx : q_st A x) : q_ff (q_jn o x y) (u + 1) 56 = if u = y then x + 1 else if o x = u + 1 then 0 else q_ff o (u + 1) 56 := by
  have hj := LJ_jn (y := y) h hx
  by_cases c : u = y
  · rw [if_pos c, c]
    refine (q_ffj hA hj).mpr ?_
    unfold q_jn
    rw [if_pos rfl]
  · rw [if_neg c]
    by_cases c2 : o x = u + 1
    · rw [if_pos c2]
      refine (q_ff_0 56).mpr (fun i _ e => ?_)
      unfold q_jn at e
      by_cases d1 : i = x
      · rw [if_pos d1] at e; omega
      · rw [if_neg d1] at e
        by_cases d2 : o i = y + 1
        · rw [if_pos d2] at e; omega
        · rw [if_neg d2] at e
          exact d1 (h.2 i x (by omega) (by omega))
    · rw [if_neg c2]
      cases hv : q_ff o (u + 1) 56 with
      | zero =>
        refine (q_ff_0 56).mpr (fun i hi e => ?_)
        unfold q_jn at e
        by_cases d1 : i = x
        · rw [if_pos d1] at e; omega
        · rw [if_neg d1] at e
          by_cases d2 : o i = y + 1
          · rw [if_pos d2] at e; omega
          · rw [if_neg d2] at e
            exact (q_ff_0 56).mp hv i hi e
      | succ v =>
        have hv2 := (q_ffj hA h).mp hv
        refine (q_ffj hA hj).mpr ?_
        unfold q_jn
        rw [if_neg (fun e => c2 (by rw [← e]; exact hv2)), if_neg (by omega)]
        exact hv2
/-- what a write of both rows makes -/
theorem c_pair {A : AP} (hA : WF A) {o : Nat → Nat} (h : LJ A o) {a c m y x : Nat} (hac : a ≠ c) (hm : m ≤ 56) (hv : ∀ u, o u ≤ m) (hx : q_st A x) (hy : y < m) (ha : ∀ u, u < 56 → s.1 a u = cd (o u)) (hc : ∀ u, u < m → s.1 c u = cd (q_ff o (u + 1) 56)) : ∃ s', s' = wr1 (wr1 (ws (ws s c m (s.1 a x) (-1)) a 56 ((ws s c m (s.1 a x) (-1)).1 c y) (-1)) a x (nI y)) c y (nI x) ∧ (∀ k, k ≠ a → k ≠ c → s'.1 k = s.1 k) ∧ s'.2 = s.2 ∧ (∀ u, u < 56 → s'.1 a u = cd (q_jn o x y u)) ∧ ∀ u, u < m → s'.1 c u = cd (q_ff (q_jn o x y) (u + 1) 56) := by
  have hxl := q_st_lt hA hx
  have hox := hv x
  have e1 : s.1 a x = cd (o x) := ha x hxl.1
  rw [e1, ws_cd hox (by omega)]
  generalize hs1 : (if o x = 0 then s else wr1 s c (o x - 1) (-1)) = s1
  have f1 : ∀ k, k ≠ c → s1.1 k = s.1 k := by
    intro k hk
    rw [← hs1]
    split
    · rfl
    · exact wr1_ne hk
  have f2 : ∀ u, u < m → s1.1 c u = if o x = u + 1 then cd 0 else cd (q_ff o (u + 1) 56) := by
    intro u hu
    rw [← hs1]
    by_cases h0 : o x = 0
    · rw [if_pos h0, if_neg (by omega)]
      exact hc u hu
    · rw [if_neg h0, wr1_at]
      by_cases h1 : u = o x - 1
      · rw [if_pos h1, if_pos (by omega), cd_0]
      · rw [if_neg h1, if_neg (by omega)]
        exact hc u hu
  have f3 : s1.2 = s.2 := by
    rw [← hs1]
    split <;> rfl
  have e2 : s1.1 c y = cd (if o x = y + 1 then 0 else q_ff o (y + 1) 56) := by
    rw [f2 y hy]
    split <;> rfl
  have hb : (if o x = y + 1 then 0 else q_ff o (y + 1) 56) ≤ 56 := by
    split
    · omega
    · exact q_ff_lt 56
  rw [e2, ws_cd hb (by omega)]
  generalize hv1 : (if o x = y + 1 then 0 else q_ff o (y + 1) 56) = v1 at hb
  generalize hs2 : (if v1 = 0 then s1 else wr1 s1 a (v1 - 1) (-1)) = s2
  have g1 : ∀ k, k ≠ a → s2.1 k = s1.1 k := by
    intro k hk
    rw [← hs2]
    split
    · rfl
    · exact wr1_ne hk
  have g3 : s2.2 = s1.2 := by
    rw [← hs2]
    split <;> rfl
  have g2 : ∀ u, u < 56 → u ≠ x → s2.1 a u = cd (q_jn o x y u) := by
    intro u hu hux
    unfold q_jn
    rw [if_neg hux, ← hs2]
    have hau : s1.1 a u = cd (o u) := by rw [f1 a hac]; exact ha u hu
    by_cases h0 : v1 = 0
    · rw [if_pos h0, hau]
      by_cases h1 : o u = y + 1
      · exfalso
        rw [h0] at hv1
        by_cases h2 : o x = y + 1
        · exact hux (h.2 u x (by omega) (by omega))
        · rw [if_neg h2] at hv1
          exact (q_ff_0 56).mp hv1 u hu h1
      · rw [if_neg h1]
    · rw [if_neg h0, wr1_at]
      have h2 : ¬ o x = y + 1 := fun z => h0 (by rw [← hv1, if_pos z])
      rw [if_neg h2] at hv1
      have h3 : o (v1 - 1) = y + 1 := (q_ffj hA h).mp (by omega)
      by_cases h1 : u = v1 - 1
      · rw [if_pos h1, h1, if_pos h3, cd_0]
      · rw [if_neg h1, hau, if_neg (fun z => h1 (h.2 u (v1 - 1) (by omega) (by omega)))]
  refine ⟨_, rfl, fun k h1 h2 => ?_, ?_, fun u hu => ?_, fun u hu => ?_⟩
  · rw [wr1_ne h2, wr1_ne h1, g1 k h1, f1 k h2]
  · rw [wr1_2, wr1_2, g3, f3]
  · rw [wr1_ne hac, wr1_at]
    by_cases h1 : u = x
    · rw [if_pos h1, h1]
      unfold q_jn
      rw [if_pos rfl, cd_s]
    · rw [if_neg h1]
      exact g2 u hu h1
  · rw [wr1_at, wr1_ne (fun z => hac z.symm), g1 c (fun z => hac z.symm), q_ff_jn hA h hx]
    by_cases h1 : u = y
    · rw [if_pos h1, if_pos h1, cd_s]
    · rw [if_neg h1, if_neg h1, f2 u hu]
      split <;> rfl
end CL1
