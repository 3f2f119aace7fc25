/-! ===== new objects ===== -/
section NEW
variable {h0 : Nat → pm_C} {B : Nat} {D : Nat → pd} {hi z : Nat} {s : mst} {N k j q n ci : Nat} {fl : List (Nat × Nat)} {x : Int32}
theorem upD_s {d : pd} : upD D k d k = d := if_pos rfl
theorem upD_n {d : pd} (h : q ≠ k) : upD D k d q = D q := if_neg h
theorem mk_wrD {c : Nat → Nat → Int32} {e : Nat → Nat → Int64} {d : pd} {dc : pm_C} (hd : dc = tC B d (c k) (e k)) : pm_wr (mkS h0 B D c e hi z) (B + k) dc = mkS h0 B (upD D k d) c e hi z := by
  subst hd
  unfold mkS pm_wr
  refine Prod.ext ?_ rfl
  funext a
  show pu _ (B + k) _ a = _
  unfold pu
  by_cases ha : a = B + k
  · subst ha
    rw [if_pos rfl]
    show _ = (if B + k < B then h0 (B + k) else tC B (upD D k d (B + k - B)) (c (B + k - B)) (e (B + k - B)))
    rw [if_neg (by omega), show B + k - B = k by omega, upD_s]
  · rw [if_neg ha]
    show (if a < B then h0 a else tC B (D (a - B)) (c (a - B)) (e (a - B))) = (if a < B then h0 a else tC B (upD D k d (a - B)) (c (a - B)) (e (a - B)))
    by_cases hb : a < B
    · rw [if_pos hb, if_pos hb]
    · rw [if_neg hb, if_neg hb, upD_n (by omega)]
/-- a reference into a field that will keep it -/
theorem wN_mk {ty : FieldType} (hk : k < hi) (hD : D k = .inr (ci, fl)) (hj : j < fl.length) (hf : pm_fit ty (.ref (B + q)) = true) : wF (mkM h0 B D hi z s) (B + k) ci j ty (.ref (B + q)) = some (mkM h0 B (upD D k (.inr (ci, fl.set j (1, q)))) hi z s) := by
  unfold mkM
  rw [wF_c (mk_cO hk hD) hf (by simpa using hj), mk_wrD]
  show _ = Sum.inr (ci, (fl.set j (1, q)).mapIdx (fun j t => fv B (s.1 k) j t))
  rw [List.mapIdx_set]
  rfl
/-- a new array -/
theorem nI_ar {t : Nat} (ht : t = 0 ∨ t = 2 ∨ t = 3) (hn : n ≤ 65536) : nA (mkM h0 B D hi z s) t (nI n) = some (B + hi, mkM h0 B (upD D hi (.inl (t, n))) (hi + 1) (z + n) (up1 s.1 hi (fun _ => 0), s.2)) := by
  have e1 : (nI n).toNatClampNeg = n := nI_clamp (by omega)
  unfold nA
  rw [e1, decide_eq_true (nI_pos (show n < 2 ^ 31 by omega)), decide_eq_true hn]
  have hc : pm_zero t n = tC B (.inl (t, n)) (fun _ => 0) (s.2 hi) := by
    rcases ht with rfl | rfl | rfl <;> rfl
  have := mk_al (h0 := h0) (B := B) (D := D) (hi := hi) (z := z) (s := s) (d := .inl (t, n)) (f := fun _ => 0) (g := s.2 hi) (c := pm_zero t n) (m := n) hc
  rw [up1_self] at this
  show some (B + hi, pm_al (mkM h0 B D hi z s) n (pm_zero t n)) = _
  rw [this]
theorem nQ_ar {t : Nat} (ht : t = 4 ∨ t = 5) (hn : n ≤ 65536) : nA (mkM h0 B D hi z s) t (nI n) = some (B + hi, mkM h0 B (upD D hi (.inl (t, n))) (hi + 1) (z + n) (up1 s.1 hi (fun _ => -1), s.2)) := by
  have e1 : (nI n).toNatClampNeg = n := nI_clamp (by omega)
  unfold nA
  rw [e1, decide_eq_true (nI_pos (show n < 2 ^ 31 by omega)), decide_eq_true hn]
  have hr : rof B (-1) = none := by unfold rof; rw [if_pos rfl]
  have hc : pm_zero t n = tC B (.inl (t, n)) (fun _ => -1) (s.2 hi) := by
    rcases ht with rfl | rfl
    · show Sum.inl (4, n, _) = Sum.inl (4, n, tA B 4 (fun _ => -1) (s.2 hi))
      unfold tA
      rw [if_neg (by decide), if_pos (Or.inl rfl)]
      dsimp only
      rw [hr]
      rfl
    · show Sum.inl (5, n, _) = Sum.inl (5, n, tA B 5 (fun _ => -1) (s.2 hi))
      unfold tA
      rw [if_neg (by decide), if_pos (Or.inr rfl)]
      dsimp only
      rw [hr]
      rfl
  have := mk_al (h0 := h0) (B := B) (D := D) (hi := hi) (z := z) (s := s) (d := .inl (t, n)) (f := fun _ => -1) (g := s.2 hi) (c := pm_zero t n) (m := n) hc
  rw [up1_self] at this
  show some (B + hi, pm_al (mkM h0 B D hi z s) n (pm_zero t n)) = _
  rw [this]
/-- a new object: its fields are nulls and zeros -/
def nuls (ref : Nat → Bool) : Nat → Int32 := fun j => if ref j then -1 else 0
theorem al_mk {vs : List Value} {ref : Nat → Bool} {m : Nat} (hv : (Sum.inr (ci, vs) : pm_C) = tC B (.inr (ci, fl)) (nuls ref) (s.2 hi)) : (ps_hi (mkM h0 B D hi z s), pm_al (mkM h0 B D hi z s) m (.inr (ci, vs))) = (B + hi, mkM h0 B (upD D hi (.inr (ci, fl))) (hi + 1) (z + m) (up1 s.1 hi (nuls ref), s.2)) := by
  have := mk_al (h0 := h0) (B := B) (D := D) (hi := hi) (z := z) (s := s) (m := m) hv
  rw [up1_self] at this
  rw [this]
  rfl
theorem fv_n {f : Nat → Int32} {i v : Nat} (h : f i = -1) : fv B f i (2, v) = .null := by
  unfold fv fw
  dsimp only
  rw [if_neg (by decide), if_neg (by decide), h]
  unfold rof
  rw [if_pos rfl]
  rfl
theorem fv_0 {f : Nat → Int32} {i v : Nat} (h : f i = 0) : fv B f i (0, v) = .int 0 := by
  unfold fv fw
  rw [if_pos rfl, h]
theorem o_led {y : Nat → Int64} : (Sum.inr (2, [.null, .int 0, .int 0]) : pm_C) = tC B (.inr (2, [(2, 0), (0, 0), (0, 0)])) (nuls (fun j => j == 0)) y := by
  show _ = Sum.inr (2, List.mapIdx (fun j t => fv B (nuls (fun j => j == 0)) j t) [(2, 0), (0, 0), (0, 0)])
  simp only [List.mapIdx_cons, List.mapIdx_nil]
  rw [fv_n (by rfl), fv_0 (by rfl), fv_0 (by rfl)]
theorem o_lay {y : Nat → Int64} : (Sum.inr (1, [.null, .null, .null, .null]) : pm_C) = tC B (.inr (1, [(2, 0), (2, 0), (2, 0), (2, 0)])) (nuls (fun _ => true)) y := by
  show _ = Sum.inr (1, List.mapIdx (fun j t => fv B (nuls (fun _ => true)) j t) [(2, 0), (2, 0), (2, 0), (2, 0)])
  simp only [List.mapIdx_cons, List.mapIdx_nil]
  rw [fv_n (by rfl), fv_n (by rfl), fv_n (by rfl), fv_n (by rfl)]
theorem o_she {y : Nat → Int64} : (Sum.inr (5, [.null, .null, .int 0, .int 0, .int 0]) : pm_C) = tC B (.inr (5, [(2, 0), (2, 0), (0, 0), (0, 0), (0, 0)])) (nuls (fun j => decide (j < 2))) y := by
  show _ = Sum.inr (5, List.mapIdx (fun j t => fv B (nuls (fun j => decide (j < 2))) j t) [(2, 0), (2, 0), (0, 0), (0, 0), (0, 0)])
  simp only [List.mapIdx_cons, List.mapIdx_nil]
  rw [fv_n (by rfl), fv_n (by rfl), fv_0 (by rfl), fv_0 (by rfl), fv_0 (by rfl)]
theorem o_pla {y : Nat → Int64} : (Sum.inr (4, [.int 0, .null, .null, .null, .null, .null, .null, .null, .null, .null, .null, .null]) : pm_C) = tC B (.inr (4, [(0, 0), (2, 0), (2, 0), (2, 0), (2, 0), (2, 0), (2, 0), (2, 0), (2, 0), (2, 0), (2, 0), (2, 0)])) (nuls (fun j => decide (0 < j))) y := by
  show _ = Sum.inr (4, List.mapIdx (fun j t => fv B (nuls (fun j => decide (0 < j))) j t) [(0, 0), (2, 0), (2, 0), (2, 0), (2, 0), (2, 0), (2, 0), (2, 0), (2, 0), (2, 0), (2, 0), (2, 0)])
  simp only [List.mapIdx_cons, List.mapIdx_nil]
  rw [fv_0 (by rfl), fv_n (by rfl), fv_n (by rfl), fv_n (by rfl), fv_n (by rfl), fv_n (by rfl), fv_n (by rfl), fv_n (by rfl), fv_n (by rfl), fv_n (by rfl), fv_n (by rfl), fv_n (by rfl)]
/-- what is above is new, below as it was -/
def BEL (D : Nat → pd) (hi : Nat) (s : mst) (D' : Nat → pd) (hi' : Nat) (s' : mst) : Prop := hi ≤ hi' ∧ (∀ k, k < hi → D' k = D k ∧ s'.1 k = s.1 k) ∧ s'.2 = s.2
theorem BEL_r : BEL D hi s D hi s := ⟨Nat.le_refl _, fun _ _ => ⟨rfl, rfl⟩, rfl⟩
theorem BEL_t {D' D'' : Nat → pd} {hi' hi'' : Nat} {s' s'' : mst} (h : BEL D hi s D' hi' s') (h' : BEL D' hi' s' D'' hi'' s'') : BEL D hi s D'' hi'' s'' := ⟨Nat.le_trans h.1 h'.1, fun k hk => ⟨((h'.2.1 k (Nat.lt_of_lt_of_le hk h.1)).1).trans (h.2.1 k hk).1, ((h'.2.1 k (Nat.lt_of_lt_of_le hk h.1)).2).trans (h.2.1 k hk).2⟩, h'.2.2.trans h.2.2⟩
theorem new_led {m : Nat} (hm : m ≤ 1000) : ∃ D' s', F_Ledger_init N (mkM h0 B (upD D hi (.inr (2, [(2, 0), (0, 0), (0, 0)]))) (hi + 1) (z + 3) (up1 s.1 hi (nuls (fun j => j == 0)), s.2)) (B + hi) (nI m) = some (mkM h0 B D' (hi + 2) (z + 3 + 5 * m) s') ∧ BEL D hi s D' (hi + 2) s' ∧ LG D' (hi + 2) hi (5 * m) ∧ s'.1 hi 1 = nI m ∧ s'.1 hi 2 = nI 0 := by
  generalize hs1 : ((up1 s.1 hi (nuls (fun j => j == 0)), s.2) : mst) = s1
  have h1k : ∀ k, k < hi → s1.1 k = s.1 k := fun k hk => by rw [← hs1]; exact up1_ne (by omega)
  have h12 : s1.2 = s.2 := by rw [← hs1]
  have hD1 : upD D hi (.inr (2, [(2, 0), (0, 0), (0, 0)])) hi = .inr (2, [(2, 0), (0, 0), (0, 0)]) := upD_s
  generalize hDD : upD D hi (.inr (2, [(2, 0), (0, 0), (0, 0)])) = D1 at hD1
  have hD1k : ∀ k, k < hi → D1 k = D k := fun k hk => by rw [← hDD]; exact upD_n (by omega)
  have hlt : hi < hi + 1 := by omega
  have emx : (if 0 < nI m then nI m else 0) = nI m := by
    by_cases c : m = 0
    · rw [c]; rfl
    · exact if_pos (show nI 0 < nI m from nI_lt (by omega) (by omega))
  have e1 : wF (mkM h0 B D1 (hi + 1) (z + 3) s1) (B + hi) 2 1 .int (.int (nI m)) = some (mkM h0 B D1 (hi + 1) (z + 3) (wr1 s1 hi 1 (nI m))) := wI_mk hlt hD1 (v := 0) rfl
  have e2 : oI (mkM h0 B D1 (hi + 1) (z + 3) (wr1 s1 hi 1 (nI m))) (B + hi) 2 1 = some (nI m) := by
    have : oI (mkM h0 B D1 (hi + 1) (z + 3) (wr1 s1 hi 1 (nI m))) (B + hi) 2 1 = some ((wr1 s1 hi 1 (nI m)).1 hi 1) := oI_mk hlt hD1 (v := 0) rfl
    rw [this, wr1_at, if_pos rfl]
  have e3 := nI_ar (h0 := h0) (B := B) (D := D1) (hi := hi + 1) (z := z + 3) (s := wr1 s1 hi 1 (nI m)) (t := 0) (n := 5 * m) (Or.inl rfl) (by omega)
  generalize hs3 : ((up1 (wr1 s1 hi 1 (nI m)).1 (hi + 1) (fun _ => 0), (wr1 s1 hi 1 (nI m)).2) : mst) = s3 at e3
  generalize hD3 : upD D1 (hi + 1) (.inl (0, 5 * m)) = D3 at e3
  have k3 : ∀ k, k ≠ hi + 1 → s3.1 k = (wr1 s1 hi 1 (nI m)).1 k := fun k hk => by rw [← hs3]; exact up1_ne hk
  have d3 : D3 hi = .inr (2, [(2, 0), (0, 0), (0, 0)]) := by rw [← hD3, upD_n (by omega)]; exact hD1
  have e4 := wN_mk (h0 := h0) (B := B) (D := D3) (hi := hi + 1 + 1) (z := z + 3 + 5 * m) (s := s3) (k := hi) (j := 0) (q := hi + 1) (ty := .array .int) (by omega) d3 (by decide) rfl
  generalize hD4 : upD D3 hi (.inr (2, [(2, 0), (0, 0), (0, 0)].set 0 (1, hi + 1))) = D4 at e4
  have d4 : D4 hi = .inr (2, [(1, hi + 1), (0, 0), (0, 0)]) := by rw [← hD4, upD_s]; rfl
  have d4a : D4 (hi + 1) = .inl (0, 5 * m) := by rw [← hD4, upD_n (by omega), ← hD3, upD_s]
  have e5 : wF (mkM h0 B D4 (hi + 1 + 1) (z + 3 + 5 * m) s3) (B + hi) 2 2 .int (.int 0) = some (mkM h0 B D4 (hi + 1 + 1) (z + 3 + 5 * m) (wr1 s3 hi 2 0)) := wI_mk (by omega) d4 (v := 0) rfl
  refine ⟨D4, wr1 s3 hi 2 0, ?_, ⟨by omega, fun k hk => ⟨?_, ?_⟩, ?_⟩, ⟨by omega, d4, by omega, d4a, by omega⟩, ?_, ?_⟩
  · unfold F_Ledger_init
    have hr : rcv (mkM h0 B D1 (hi + 1) (z + 3) s1) (B + hi) 2 = true := rcv_mk hlt hD1
    have hm2 : pm_my (mkM h0 B D1 (hi + 1) (z + 3) s1) (B + hi) = true := mk_my hlt
    rw [hr, if_pos rfl, hm2, if_pos rfl, emx, e1, Option.bind_some, e2, Option.bind_some, L_5, nI_mul, e3, Option.bind_some]
    dsimp only
    rw [e4, Option.bind_some, e5, Option.bind_some]
  · rw [← hD4, upD_n (by omega), ← hD3, upD_n (by omega)]; exact hD1k k hk
  · rw [wr1_ne (by omega), k3 k (by omega), wr1_ne (by omega)]; exact h1k k hk
  · rw [wr1_2, ← hs3, wr1_2]; exact h12
  · rw [wr1_at, if_neg (by decide), k3 hi (by omega), wr1_at, if_pos rfl]
  · rw [wr1_at, if_pos rfl]; rfl
end NEW
