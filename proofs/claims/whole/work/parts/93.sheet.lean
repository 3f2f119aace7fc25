/-! ===== the sheet's cells; new cells ===== -/
section SHM
variable {h0 : Nat → pm_C} {B : Nat} {D : Nat → pd} {hi z : Nat} {s : mst} {N P k : Nat} {x : Int32}
theorem pl_S (h : PL D hi P) : P + 24 < hi ∧ D (P + 24) = .inr (5, [(1, P + 25), (1, P + 26), (0, 0), (0, 0), (0, 0)]) := h.2.2.2.2.2.2.2.2.2.2.2.2.1
theorem pl_C (h : PL D hi P) : P + 25 < hi ∧ D (P + 25) = .inl (5, 24) := h.2.2.2.2.2.2.2.2.2.2.2.2.2.1
theorem sh_rc (h : PL D hi P) : rcv (mkM h0 B D hi z s) (B + (P + 24)) 5 = true := rcv_mk (pl_S h).1 (pl_S h).2
theorem sh_0 (h : PL D hi P) : oR (mkM h0 B D hi z s) (B + (P + 24)) 5 0 = some (some (B + (P + 25))) := oR_mk (pl_S h).1 (pl_S h).2 (v := P + 25) rfl
theorem sh_1 (h : PL D hi P) : oR (mkM h0 B D hi z s) (B + (P + 24)) 5 1 = some (some (B + (P + 26))) := oR_mk (pl_S h).1 (pl_S h).2 (v := P + 26) rfl
theorem sh_2 (h : PL D hi P) : oI (mkM h0 B D hi z s) (B + (P + 24)) 5 2 = some (s.1 (P + 24) 2) := oI_mk (pl_S h).1 (pl_S h).2 (v := 0) rfl
theorem sh_3 (h : PL D hi P) : oI (mkM h0 B D hi z s) (B + (P + 24)) 5 3 = some (s.1 (P + 24) 3) := oI_mk (pl_S h).1 (pl_S h).2 (v := 0) rfl
theorem sh_4 (h : PL D hi P) : oI (mkM h0 B D hi z s) (B + (P + 24)) 5 4 = some (s.1 (P + 24) 4) := oI_mk (pl_S h).1 (pl_S h).2 (v := 0) rfl
theorem sw_2 (h : PL D hi P) : wF (mkM h0 B D hi z s) (B + (P + 24)) 5 2 .int (.int x) = some (mkM h0 B D hi z (wr1 s (P + 24) 2 x)) := wI_mk (pl_S h).1 (pl_S h).2 (v := 0) rfl
theorem sw_3 (h : PL D hi P) : wF (mkM h0 B D hi z s) (B + (P + 24)) 5 3 .int (.int x) = some (mkM h0 B D hi z (wr1 s (P + 24) 3 x)) := wI_mk (pl_S h).1 (pl_S h).2 (v := 0) rfl
theorem sw_4 (h : PL D hi P) (hx : x = 0 ∨ x = 1) : wF (mkM h0 B D hi z s) (B + (P + 24)) 5 4 .boolean (.int x) = some (mkM h0 B D hi z (wr1 s (P + 24) 4 x)) := wZ_mk (pl_S h).1 (pl_S h).2 (v := 0) rfl hx
theorem q_n {n t : Nat} (hk : k < hi) (hD : D k = .inl (t, n)) (ht : t = 4 ∨ t = 5) : aNS (mkM h0 B D hi z s) (B + k) = some (nI n) := by
  obtain ⟨h1, h2⟩ := mk_cell (h0 := h0) (B := B) (c := s.1) (e := s.2) (z := z) hk hD
  have e1 : ps_h (mkM h0 B D hi z s) (B + k) = tC B (.inl (t, n)) (s.1 k) (s.2 k) := h1
  have e2 : pm_my (mkM h0 B D hi z s) (B + k) = true := h2
  unfold aNS aN
  rw [e1]
  rcases ht with rfl | rfl
  · show (if (pm_my (mkM h0 B D hi z s) (B + k) && decide (4 < 6)) = true then some (Int32.ofNat n) else none) = _
    rw [e2]
    rfl
  · show (if (pm_my (mkM h0 B D hi z s) (B + k) && decide (5 < 6)) = true then some (Int32.ofNat n) else none) = _
    rw [e2]
    rfl
theorem q_r {n t j : Nat} (hk : k < hi) (hD : D k = .inl (t, n)) (ht : t = 4 ∨ t = 5) (hj : j < n) (hn : n < 2 ^ 31) : aQ (mkM h0 B D hi z s) (B + k) (nI j) = some (rof B (s.1 k j)) := by
  obtain ⟨h1, h2⟩ := mk_cell (h0 := h0) (B := B) (c := s.1) (e := s.2) (z := z) hk hD
  have e1 : ps_h (mkM h0 B D hi z s) (B + k) = tC B (.inl (t, n)) (s.1 k) (s.2 k) := h1
  have e2 : pm_my (mkM h0 B D hi z s) (B + k) = true := h2
  have e3 := pmin hj hn
  have e4 : (nI j).toNatClampNeg = j := nI_clamp (by omega)
  unfold aQ
  rw [e1]
  rcases ht with rfl | rfl
  · show (if ((decide (4 = 4) || decide (4 = 5)) && pm_my (mkM h0 B D hi z s) (B + k) && pm_in (nI j) n) = true then some (rof B (s.1 k (nI j).toNatClampNeg)) else none) = _
    rw [e2, e3, e4]
    rfl
  · show (if ((decide (5 = 4) || decide (5 = 5)) && pm_my (mkM h0 B D hi z s) (B + k) && pm_in (nI j) n) = true then some (rof B (s.1 k (nI j).toNatClampNeg)) else none) = _
    rw [e2, e3, e4]
    rfl
theorem rof_up {f : Nat → Int32} {j K : Nat} (hK : K < 2 ^ 31) : va_up (fun i => rof B (f i)) j (some (B + K)) = fun i => rof B (upd f j (nI K) i) := by
  funext i
  unfold va_up
  by_cases h : i = j
  · rw [if_pos h, upd_g, if_pos h, rof_nI hK]
  · rw [if_neg h, upd_g, if_neg h]
theorem q_s {n j K m : Nat} (hk : k < hi) (hD : D k = .inl (5, n)) (hj : j < n) (hn : n < 2 ^ 31) (hK : AR D hi K m) (hKb : K < 2 ^ 31) : sQ (mkM h0 B D hi z s) (B + k) (nI j) (B + K) = some (mkM h0 B D hi z (wr1 s k j (nI K))) := by
  obtain ⟨h1, h2⟩ := mk_cell (h0 := h0) (B := B) (c := s.1) (e := s.2) (z := z) hk hD
  obtain ⟨g1, g2⟩ := mk_cell (h0 := h0) (B := B) (c := s.1) (e := s.2) (z := z) hK.1 hK.2.1
  have e1 : ps_h (mkM h0 B D hi z s) (B + k) = tC B (.inl (5, n)) (s.1 k) (s.2 k) := h1
  have e2 : pm_my (mkM h0 B D hi z s) (B + k) = true := h2
  have e5 : ps_h (mkM h0 B D hi z s) (B + K) = tC B (.inl (0, m)) (s.1 K) (s.2 K) := g1
  have e6 : pm_my (mkM h0 B D hi z s) (B + K) = true := g2
  have e3 := pmin hj hn
  have e4 : (nI j).toNatClampNeg = j := nI_clamp (by omega)
  unfold sQ
  rw [e1]
  show (if (pm_my (mkM h0 B D hi z s) (B + k) && pm_my (mkM h0 B D hi z s) (B + K) && pm_in (nI j) n && pm_okv 4 5 (ps_h (mkM h0 B D hi z s) (B + K))) = true then some (pm_wr (mkM h0 B D hi z s) (B + k) (.inl (5, n, .inr (.inr (.inr (.inr (va_up (fun j => rof B (s.1 k j)) (nI j).toNatClampNeg (some (B + K))))))))) else none) = _
  rw [e2, e6, e3, e5, e4, rof_up hKb]
  show some (pm_wr (mkS h0 B D s.1 s.2 hi z) (B + k) _) = _
  rw [mk_wr (x := upd (s.1 k) j (nI K)) (y := s.2 k) (by rw [hD]; rfl), up1_self]
  rfl
def upD (D : Nat → pd) (k : Nat) (d : pd) : Nat → pd := fun q => if q = k then d else D q
/-- a new cell -/
theorem mk_al {d : pd} {f : Nat → Int32} {g : Nat → Int64} {c : pm_C} {m : Nat} (hc : c = tC B d f g) : pm_al (mkM h0 B D hi z s) m c = mkM h0 B (upD D hi d) (hi + 1) (z + m) (up1 s.1 hi f, up1 s.2 hi g) := by
  subst hc
  unfold pm_al mkM mkS
  refine Prod.ext ?_ ?_
  · funext a
    show pu _ (B + hi) _ a = _
    unfold pu
    by_cases ha : a = B + hi
    · subst ha
      rw [if_pos rfl]
      show _ = (if B + hi < B then h0 (B + hi) else tC B (upD D hi d (B + hi - B)) (up1 s.1 hi f (B + hi - B)) (up1 s.2 hi g (B + hi - B)))
      rw [if_neg (by omega), show B + hi - B = hi by omega, up1_same, up1_same]
      unfold upD
      rw [if_pos rfl]
    · rw [if_neg ha]
      show (if a < B then h0 a else tC B (D (a - B)) (s.1 (a - B)) (s.2 (a - B))) = (if a < B then h0 a else tC B (upD D hi d (a - B)) (up1 s.1 hi f (a - B)) (up1 s.2 hi g (a - B)))
      by_cases hb : a < B
      · rw [if_pos hb, if_pos hb]
      · rw [if_neg hb, if_neg hb, up1_ne (by omega), up1_ne (by omega)]
        unfold upD
        rw [if_neg (by omega)]
  · show (B, B + hi + 1, z + m) = (B, B + (hi + 1), z + m)
    rw [Nat.add_assoc]
theorem nA_mk {n : Nat} (hn : n ≤ 65536) : nA (mkM h0 B D hi z s) 0 (nI n) = some (B + hi, mkM h0 B (upD D hi (.inl (0, n))) (hi + 1) (z + n) (up1 s.1 hi (fun _ => 0), s.2)) := by
  have e1 : (nI n).toNatClampNeg = n := nI_clamp (by omega)
  unfold nA
  rw [e1, decide_eq_true (nI_pos (show n < 2 ^ 31 by omega)), decide_eq_true hn]
  have := mk_al (h0 := h0) (B := B) (D := D) (hi := hi) (z := z) (s := s) (d := .inl (0, n)) (f := fun _ => 0) (g := s.2 hi) (c := pm_zero 0 n) (m := n) rfl
  rw [up1_self] at this
  show some (B + hi, pm_al (mkM h0 B D hi z s) n (pm_zero 0 n)) = _
  rw [this]
end SHM
/-- what was there stays what it is -/
def EX (D : Nat → pd) (hi : Nat) (ow : Nat → Nat) (D' : Nat → pd) (hi' : Nat) (ow' : Nat → Nat) : Prop := hi ≤ hi' ∧ ∀ k, k < hi → D' k = D k ∧ ow' k = ow k
section EXS
variable {D D' D'' : Nat → pd} {hi hi' hi'' k n L Y P : Nat} {ow ow' ow'' : Nat → Nat}
theorem EX_r : EX D hi ow D hi ow := ⟨Nat.le_refl _, fun _ _ => ⟨rfl, rfl⟩⟩
theorem EX_t (h : EX D hi ow D' hi' ow') (h' : EX D' hi' ow' D'' hi'' ow'') : EX D hi ow D'' hi'' ow'' := ⟨Nat.le_trans h.1 h'.1, fun k hk => ⟨((h'.2 k (Nat.lt_of_lt_of_le hk h.1)).1).trans (h.2 k hk).1, ((h'.2 k (Nat.lt_of_lt_of_le hk h.1)).2).trans (h.2 k hk).2⟩⟩
theorem FX_ex (e : EX D hi ow D' hi' ow') (h : FX D hi) : FX D' hi' := ⟨Nat.le_trans h.1 e.1, fun k hk => by rw [(e.2 k (Nat.lt_of_lt_of_le hk h.1)).1]; exact h.2 k hk⟩
theorem AR_ex (e : EX D hi ow D' hi' ow') (h : AR D hi k n) : AR D' hi' k n := ⟨Nat.lt_of_lt_of_le h.1 e.1, by rw [(e.2 k h.1).1]; exact h.2.1, h.2.2⟩
theorem LG_ex (e : EX D hi ow D' hi' ow') (h : LG D hi L n) : LG D' hi' L n := ⟨Nat.lt_of_lt_of_le h.1 e.1, by rw [(e.2 L h.1).1]; exact h.2.1, AR_ex e h.2.2⟩
theorem LT_ex (e : EX D hi ow D' hi' ow') (h : LT D hi Y) : LT D' hi' Y := ⟨Nat.lt_of_lt_of_le h.1 e.1, by rw [(e.2 Y h.1).1]; exact h.2.1, AR_ex e h.2.2.1, AR_ex e h.2.2.2.1, AR_ex e h.2.2.2.2.1, AR_ex e h.2.2.2.2.2⟩
theorem PL_ex (e : EX D hi ow D' hi' ow') (h : PL D hi P) : PL D' hi' P := ⟨Nat.lt_of_lt_of_le h.1 e.1, by rw [(e.2 P h.1).1]; exact h.2.1, LG_ex e (pl_L1 h), AR_ex e (pl_A3 h), AR_ex e (pl_A4 h), LT_ex e (pl_T5 h), LT_ex e (pl_T10 h), LG_ex e (pl_L15 h), LG_ex e (pl_L17 h), LG_ex e (pl_L19 h), LG_ex e (pl_L21 h), AR_ex e (pl_A23 h), ⟨Nat.lt_of_lt_of_le (pl_S h).1 e.1, by rw [(e.2 _ (pl_S h).1).1]; exact (pl_S h).2⟩, ⟨Nat.lt_of_lt_of_le (pl_C h).1 e.1, by rw [(e.2 _ (pl_C h).1).1]; exact (pl_C h).2⟩, AR_ex e (pl_A26 h)⟩
theorem CW_ex {s : mst} {A : AP} {w : Nat} {b : Nat × Nat} (e : EX D hi ow D' hi' ow') (h : CW D hi s A w b P) : CW D' hi' s A w b P := by
  obtain ⟨h1, ⟨Y, h2, h3, h4, h5⟩, h6⟩ := h
  exact ⟨h1, ⟨Y, h2, h3, LT_ex e h4, h5⟩, h6⟩
end EXS
