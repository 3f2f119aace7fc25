/-! ===== layouts at work; a PLAN in the class's cells; its questions ===== -/
/-- what changes: cells of K -/
def Fm (K : Nat → Prop) (s s' : mst) : Prop := (∀ k, ¬ K k → s'.1 k = s.1 k) ∧ s'.2 = s.2
theorem Fm_r {K : Nat → Prop} {s : mst} : Fm K s s := ⟨fun _ _ => rfl, rfl⟩
theorem Fm_t {K : Nat → Prop} {s s' s'' : mst} (h : Fm K s s') (h' : Fm K s' s'') : Fm K s s'' := ⟨fun k hk => (h'.1 k hk).trans (h.1 k hk), h'.2.trans h.2⟩
theorem Fm_m {K K' : Nat → Prop} {s s' : mst} (h : Fm K s s') (hK : ∀ k, K k → K' k) : Fm K' s s' := ⟨fun k hk => h.1 k (fun z => hk (hK k z)), h.2⟩
theorem Fm_w {K : Nat → Prop} {s : mst} {k j : Nat} {x : Int32} (h : K k) : Fm K s (wr1 s k j x) := ⟨fun q hq => wr1_ne (fun e => hq (by rw [e]; exact h)), rfl⟩
theorem Fm_s {K : Nat → Prop} {s : mst} {k n : Nat} {i x : Int32} (h : K k) : Fm K s (ws s k n i x) := ⟨fun q hq => up1_ne (fun e => hq (by rw [e]; exact h)), rfl⟩
section CL2
variable {h0 : Nat → pm_C} {B : Nat} {D : Nat → pd} {hi z : Nat} {s : mst} {N n L Y P : Nat} {A : AP}
theorem c_fill {k m : Nat} {x : Int32} (hN : m < N) (h : AR D hi k m) : ∃ s', F_Arr_fill N (mkM h0 B D hi z s) (B + k) x = some (mkM h0 B D hi z (s')) ∧ Fm (fun q => q = k) s s' ∧ ∀ j, j < m → s'.1 k j = x := by
  unfold F_Arr_fill
  rw [ar_n h, Option.bind_some]
  have hm := h.2.2
  refine Exists.elim (lpE (F := fun f i s => F_Arr_fill_5 N (B + k) x (nI m) f (nI i) (mkM h0 B D hi z s)) (n := m) (I := fun i s' => Fm (fun q => q = k) s s' ∧ ∀ j, j < i → s'.1 k j = x) ?_ N 0 s (by omega) (by omega) ⟨Fm_r, fun j hj => by omega⟩) ?_
  · intro f i s' hi' ⟨i1, i2⟩
    refine ⟨wr1 s' k i x, ⟨Fm_t i1 (Fm_w rfl), fun j hj => ?_⟩, ?_⟩
    · rw [wr1_at]
      split
      · rfl
      · exact i2 j (by omega)
    · show B_Arr_fill_5 N (F_Arr_fill_5 N (B + k) x (nI m) f) (B + k) x (nI m) (nI i) (mkM h0 B D hi z (s')) = _
      unfold B_Arr_fill_5
      rw [if_neg (nI_ge hi' hm), ar_w h hi', Option.bind_some, nI_1]
  · intro f ⟨s', ⟨i1, i2⟩, e⟩
    refine ⟨s', Eq.trans e ?_, i1, i2⟩
    show B_Arr_fill_5 N (F_Arr_fill_5 N (B + k) x (nI m) f) (B + k) x (nI m) (nI m) (mkM h0 B D hi z (s')) = _
    unfold B_Arr_fill_5 F_Arr_fill_20
    rw [if_pos (nI_le (Nat.le_refl _) hm)]
def cpw (s : mst) (k0 k1 m : Nat) : mst := (up1 s.1 k1 (va_cpy (s.1 k0) (s.1 k1) 0 0 m), s.2)
theorem ar_c {k0 k1 n0 n1 m : Nat} (h : AR D hi k0 n0) (h' : AR D hi k1 n1) (hm0 : m ≤ n0) (hm1 : m ≤ n1) : cP (mkM h0 B D hi z s) (B + k0) 0 (B + k1) 0 (nI m) = some (mkM h0 B D hi z (cpw s k0 k1 m)) := by
  have c0 := mk_cI (h0 := h0) (B := B) (c := s.1) (e := s.2) (z := z) h.1 h.2.1
  have c1 := mk_cI (h0 := h0) (B := B) (c := s.1) (e := s.2) (z := z) h'.1 h'.2.1
  have hn := h.2.2
  unfold cP
  have e0 : ps_h (mkM h0 B D hi z s) (B + k0) = .inl (0, n0, .inl (s.1 k0)) := c0.1
  have e1 : ps_h (mkM h0 B D hi z s) (B + k1) = .inl (0, n1, .inl (s.1 k1)) := c1.1
  have m0 : pm_my (mkM h0 B D hi z s) (B + k0) = true := c0.2
  have m1 : pm_my (mkM h0 B D hi z s) (B + k1) = true := c1.2
  rw [e0, e1]
  dsimp only
  rw [m0, m1, nI_clamp (by omega), show (0 : Int32).toNatClampNeg = 0 from rfl]
  have hb : (decide (0 = 0) && decide (0 = 0) && true && true && decide (¬ (0 : Int32) < 0) && decide (¬ (0 : Int32) < 0) && decide (¬ nI m < 0) && decide (0 + m ≤ n0) && decide (0 + m ≤ n1)) = true := by
    have a1 : decide (¬ (0 : Int32) < 0) = true := by decide
    have a2 : decide (¬ nI m < 0) = true := decide_eq_true (nI_pos (by omega))
    have a3 : decide (0 + m ≤ n0) = true := decide_eq_true (by omega)
    have a4 : decide (0 + m ≤ n1) = true := decide_eq_true (by omega)
    rw [a1, a2, a3, a4]
    rfl
  rw [if_pos hb]
  have := mk_wr (h0 := h0) (B := B) (D := D) (c := s.1) (e := s.2) (hi := hi) (z := z) (k := k1) (x := va_cpy (s.1 k0) (s.1 k1) 0 0 m) (y := s.2 k1) (d := .inl (0, n1, .inl (va_cpy (s.1 k0) (s.1 k1) 0 0 m))) (by rw [h'.2.1]; rfl)
  rw [up1_self] at this
  exact congrArg some this
theorem cpy_at {f g : Nat → Int32} {m j : Nat} (h : j < m) : va_cpy f g 0 0 m j = f j := by
  rw [pk_cpy_in (Nat.zero_le _) (by omega), Nat.zero_add, Nat.sub_zero]
theorem cpw_ne {k0 k1 m q : Nat} (h : q ≠ k1) : (cpw s k0 k1 m).1 q = s.1 q := up1_ne h
theorem cpw_at {k0 k1 m j : Nat} (h : j < m) : (cpw s k0 k1 m).1 k1 j = s.1 k0 j := by
  show up1 s.1 k1 (va_cpy (s.1 k0) (s.1 k1) 0 0 m) k1 j = _
  rw [up1_same, cpy_at h]
theorem c_copy {Z : Nat} {T : LY} (h : LT D hi Y) (h' : LT D hi Z) (hd : Y + 4 < Z ∨ Z + 4 < Y) (hT : CL s Z T) : ∃ s', F_Layout_copy N (mkM h0 B D hi z s) (B + Y) (B + Z) = some (mkM h0 B D hi z (s')) ∧ Fm (fun q => Y < q ∧ q ≤ Y + 4) s s' ∧ CL s' Y T := by
  obtain ⟨_, _, y1, y2, y3, y4⟩ := id h
  obtain ⟨_, _, z1, z2, z3, z4⟩ := id h'
  refine ⟨cpw (cpw (cpw (cpw s (Z + 1) (Y + 1) 56) (Z + 2) (Y + 2) 56) (Z + 3) (Y + 3) 56) (Z + 4) (Y + 4) 10, ?_, ?_, ?_⟩
  · unfold F_Layout_copy
    simp only [yt_rc h, yt_0 h, yt_1 h, yt_2 h, yt_3 h, yt_0 h', yt_1 h', yt_2 h', yt_3 h', L_56, L_10, ar_c z1 y1 (Nat.le_refl _) (Nat.le_refl _), ar_c z2 y2 (Nat.le_refl _) (Nat.le_refl _), ar_c z3 y3 (Nat.le_refl _) (Nat.le_refl _), ar_c z4 y4 (Nat.le_refl _) (Nat.le_refl _), Option.bind_some, Option.map_some, Option.bind_none, if_true, if_false]
  · refine ⟨fun k hk => ?_, rfl⟩
    rw [cpw_ne (by omega), cpw_ne (by omega), cpw_ne (by omega), cpw_ne (by omega)]
  · refine ⟨fun u hu => ?_, fun j hj => ?_⟩
    · obtain ⟨a, b, c⟩ := hT.1 u hu
      refine ⟨?_, ?_, ?_⟩
      · rw [cpw_ne (by omega), cpw_ne (by omega), cpw_ne (by omega), cpw_at hu]; exact a
      · rw [cpw_ne (by omega), cpw_ne (by omega), cpw_at hu, cpw_ne (by omega)]; exact b
      · rw [cpw_ne (by omega), cpw_at hu, cpw_ne (by omega), cpw_ne (by omega)]; exact c
    · rw [cpw_at hj, cpw_ne (by omega), cpw_ne (by omega), cpw_ne (by omega)]
      exact hT.2 j hj
theorem c_work (hA : WF A) {k : Nat} (hk : k < q_nq A + q_ns A) {T : LY} (hV : LV A T) (hX : LX A T) (h : LT D hi Y) (hT : CL s Y T) : ∃ s', F_Layout_work N (mkM h0 B D hi z s) (B + Y) (nI (q_ok A k)) (nI (q_os A k)) (nI (q_ow A k)) = some (mkM h0 B D hi z (s')) ∧ Fm (fun q => Y < q ∧ q ≤ Y + 4) s s' ∧ CL s' Y (q_op A k T) := by
  obtain ⟨_, _, y1, y2, y3, y4⟩ := id h
  obtain ⟨w1, w2, w3, w4⟩ := hA.2.2.2.1 k hk
  have hsl := q_st_lt hA w2
  unfold F_Layout_work F_Layout_work_19
  rw [yt_rc h, if_pos rfl]
  by_cases h0k : q_ok A k = 0
  · rw [if_pos (by rw [h0k]; rfl)]
    have hwl := q_st_lt hA (w3 h0k).1
    obtain ⟨s', e, f1, f2, f3, f4⟩ := c_pair (s := s) hA hX.1 (a := Y + 1) (c := Y + 2) (m := 56) (y := q_ow A k) (x := q_os A k) (by omega) (by omega) (fun u => by
      rcases (hV u).1 with z | z
      · omega
      · have := q_st_lt hA z; omega) w2 hwl.1 (fun u hu => (hT.1 u hu).1) (fun u hu => (hT.1 u hu).2.1)
    refine ⟨s', ?_, ⟨fun q hq => f1 q (fun e => hq (by omega)) (fun e => hq (by omega)), f2⟩, ?_⟩
    · unfold F_Layout_join
      simp only [yt_rc h, yt_0 h, yt_1 h, ar_v y1, ar_v y2, ar_s y1, ar_s y2, Option.bind_some, Option.map_some, Option.bind_none, if_true, if_false]
      rw [e, vat_nI hsl.1 (by decide), vat_nI hwl.1 (by decide), ws_nI hsl.1 (by decide), ws_nI hwl.1 (by decide)]
    · unfold q_op
      rw [if_pos h0k]
      refine ⟨fun u hu => ⟨f3 u hu, f4 u hu, ?_⟩, fun j hj => ?_⟩
      · rw [f1 (Y + 3) (by omega) (by omega)]; exact (hT.1 u hu).2.2
      · rw [f1 (Y + 4) (by omega) (by omega)]; exact hT.2 j hj
  · have h1k : q_ok A k = 1 := by omega
    rw [if_neg (by rw [h1k]; decide)]
    have hwl := w4 h1k
    obtain ⟨s', e, f1, f2, f3, f4⟩ := c_pair (s := s) hA hX.2.1 (a := Y + 3) (c := Y + 4) (m := 10) (y := q_ow A k) (x := q_os A k) (by omega) (by omega) (fun u => (hV u).2) w2 hwl (fun u hu => (hT.1 u hu).2.2) (fun u hu => hT.2 u hu)
    refine ⟨s', ?_, ⟨fun q hq => f1 q (fun e => hq (by omega)) (fun e => hq (by omega)), f2⟩, ?_⟩
    · unfold F_Layout_hang
      simp only [yt_rc h, yt_2 h, yt_3 h, ar_v y3, ar_v y4, ar_s y3, ar_s y4, Option.bind_some, Option.map_some, Option.bind_none, if_true, if_false]
      rw [e, vat_nI hsl.1 (by decide), vat_nI hwl (by decide), ws_nI hsl.1 (by decide), ws_nI hwl (by decide)]
    · unfold q_op
      rw [if_neg h0k]
      refine ⟨fun u hu => ⟨?_, ?_, f3 u hu⟩, f4⟩
      · rw [f1 (Y + 1) (by omega) (by omega)]; exact (hT.1 u hu).1
      · rw [f1 (Y + 2) (by omega) (by omega)]; exact (hT.1 u hu).2.1
theorem CL_fm {s' : mst} {T : LY} {K : Nat → Prop} (h : CL s Y T) (hm : Fm K s s') (hK : ¬ K (Y + 1) ∧ ¬ K (Y + 2) ∧ ¬ K (Y + 3) ∧ ¬ K (Y + 4)) : CL s' Y T := by
  unfold CL at h ⊢
  rw [hm.1 _ hK.1, hm.1 _ hK.2.1, hm.1 _ hK.2.2.1, hm.1 _ hK.2.2.2]
  exact h
/-- the first number of a CABLE of the EXCHANGE -/
def q_f0 (A : AP) : Nat → Nat
  | 0 => 0
  | c + 1 => q_f0 A c + if q_fr A c = 0 then q_pr A c else 0
def CPc (s : mst) (P : Nat) (A : AP) : Prop := s.1 P 0 = nI (q_nb A) ∧ s.1 (P + 1) 2 = nI (q_nc A) ∧ s.1 (P + 1) 1 = nI 7 ∧ (∀ x, x < q_nc A → s.1 (P + 1 + 1) (5 * x + 0) = nI (q_fr A x) ∧ s.1 (P + 1 + 1) (5 * x + 1) = nI (q_tb A x) ∧ s.1 (P + 1 + 1) (5 * x + 2) = nI (q_pr A x) ∧ s.1 (P + 1 + 1) (5 * x + 3) = nI (q_ln A x)) ∧ ∀ b, b < 8 → s.1 (P + 3) b = cd (q_ff (q_tb A) b (q_nc A))
def CPl (s : mst) (P : Nat) (A : AP) : Prop := (∀ x, x < q_nc A → s.1 (P + 4) x = nI (q_f0 A x)) ∧ CL s (P + 5) (q_ly A (q_nq A)) ∧ CL s (P + 10) (q_lw A 0 (q_ns A))
def CPs (s : mst) (P : Nat) (A : AP) : Prop := s.1 (P + 15) 2 = nI (q_ns A) ∧ s.1 (P + 15) 1 = nI 6 ∧ ∀ i, i < q_ns A → s.1 (P + 15 + 1) (5 * i + 0) = nI (q_ok A (q_nq A + i)) ∧ s.1 (P + 15 + 1) (5 * i + 1) = nI (q_os A (q_nq A + i)) ∧ s.1 (P + 15 + 1) (5 * i + 2) = nI (q_ow A (q_nq A + i))
def CPt (s : mst) (P : Nat) (A : AP) : Prop := s.1 (P + 17) 2 = nI (q_nt A) ∧ s.1 (P + 17) 1 = nI 10 ∧ ∀ k, k < q_nt A → s.1 (P + 17 + 1) (5 * k + 0) = nI (q_tk A k) ∧ s.1 (P + 17 + 1) (5 * k + 1) = nI (q_tx A k) ∧ (q_tk A k < 3 → s.1 (P + 17 + 1) (5 * k + 2) = nI (q_tp A k)) ∧ (q_tk A k = 0 ∨ q_tk A k = 2 → s.1 (P + 17 + 1) (5 * k + 3) = nI (q_tq A k)) ∧ (q_tk A k = 1 ∨ q_tk A k = 2 → s.1 (P + 17 + 1) (5 * k + 4) = nI (q_td A k))
def CPe (s : mst) (P : Nat) (A : AP) : Prop := s.1 (P + 19) 2 = nI (q_ne A) ∧ s.1 (P + 19) 1 = nI 12 ∧ ∀ k, k < q_ne A → s.1 (P + 19 + 1) (5 * k + 0) = nI (q_ek A k) ∧ s.1 (P + 19 + 1) (5 * k + 1) = nI (q_es A k) ∧ s.1 (P + 19 + 1) (5 * k + 2) = nI (q_ee A k) ∧ s.1 (P + 19 + 1) (5 * k + 3) = nI (q_ey A k) ∧ s.1 (P + 19 + 1) (5 * k + 4) = nI (q_ei A k)
def CPr (s : mst) (P : Nat) (A : AP) : Prop := s.1 (P + 21) 2 = nI (q_nr A) ∧ s.1 (P + 21) 1 = nI 24 ∧ ∀ k, k < q_nr A → s.1 (P + 21 + 1) (5 * k + 0) = nI (q_rt A k) ∧ s.1 (P + 21 + 1) (5 * k + 1) = nI (q_rw A k) ∧ s.1 (P + 21 + 1) (5 * k + 2) = nI (q_rv A k)
def CPw (s : mst) (P : Nat) (A : AP) : Prop := ∀ h, h < 10 → s.1 (P + 23) h = cd (q_wt A h)
/-- the PLAN at cell P of the class is A (its sheet apart) -/
def CP (s : mst) (P : Nat) (A : AP) : Prop := CPc s P A ∧ CPl s P A ∧ CPs s P A ∧ CPt s P A ∧ CPe s P A ∧ CPr s P A ∧ CPw s P A
theorem CP_eq {s' : mst} (h : CP s P A) (e : ∀ k, P ≤ k → k < P + 24 → s'.1 k = s.1 k) : CP s' P A := by
  unfold CP CPc CPl CPs CPt CPe CPr CPw CL at h ⊢
  have f : ∀ j, j < 24 → s'.1 (P + j) = s.1 (P + j) := fun j hj => e (P + j) (by omega) (by omega)
  have f0 : s'.1 P = s.1 P := e P (by omega) (by omega)
  rw [f0, f 1 (by omega), show s'.1 (P + 1 + 1) = s.1 (P + 1 + 1) from f 2 (by omega), f 3 (by omega), f 4 (by omega), show s'.1 (P + 5 + 1) = s.1 (P + 5 + 1) from f 6 (by omega), show s'.1 (P + 5 + 2) = s.1 (P + 5 + 2) from f 7 (by omega), show s'.1 (P + 5 + 3) = s.1 (P + 5 + 3) from f 8 (by omega), show s'.1 (P + 5 + 4) = s.1 (P + 5 + 4) from f 9 (by omega), show s'.1 (P + 10 + 1) = s.1 (P + 10 + 1) from f 11 (by omega), show s'.1 (P + 10 + 2) = s.1 (P + 10 + 2) from f 12 (by omega), show s'.1 (P + 10 + 3) = s.1 (P + 10 + 3) from f 13 (by omega), show s'.1 (P + 10 + 4) = s.1 (P + 10 + 4) from f 14 (by omega), f 15 (by omega), show s'.1 (P + 15 + 1) = s.1 (P + 15 + 1) from f 16 (by omega), f 17 (by omega), show s'.1 (P + 17 + 1) = s.1 (P + 17 + 1) from f 18 (by omega), f 19 (by omega), show s'.1 (P + 19 + 1) = s.1 (P + 19 + 1) from f 20 (by omega), f 21 (by omega), show s'.1 (P + 21 + 1) = s.1 (P + 21 + 1) from f 22 (by omega), f 23 (by omega)]
  exact h
theorem CP_fm {s' : mst} {K : Nat → Prop} (h : CP s P A) (hm : Fm K s s') (hK : ∀ k, P ≤ k → k < P + 24 → ¬ K k) : CP s' P A := CP_eq h (fun k h1 h2 => hm.1 k (hK k h1 h2))
/-! questions of a PLAN -/
variable {x p : Nat} {i j : Int32}
theorem c_pairsOf (hp : PL D hi P) (h : CP s P A) (hA : WF A) (hx : x < q_nc A) : F_Plan_pairsOf N (mkM h0 B D hi z s) (B + P) (nI x) = some (nI (q_pr A x), (mkM h0 B D hi z s)) := by
  have := hA.1.2.2.1
  unfold F_Plan_pairsOf
  rw [pl_rc hp, if_pos rfl, pl_1 hp]
  dsimp only [Option.bind_some]
  rw [L_2, c_at (pl_L1 hp) h.1.2.1 (by omega) hx (by omega), (h.1.2.2.2.1 x hx).2.2.1]
  rfl
theorem c_lengthOf (hp : PL D hi P) (h : CP s P A) (hA : WF A) (hx : x < q_nc A) : F_Plan_lengthOf N (mkM h0 B D hi z s) (B + P) (nI x) = some (nI (q_ln A x), (mkM h0 B D hi z s)) := by
  have := hA.1.2.2.1
  unfold F_Plan_lengthOf
  rw [pl_rc hp, if_pos rfl, pl_1 hp]
  dsimp only [Option.bind_some]
  rw [L_3, c_at (pl_L1 hp) h.1.2.1 (by omega) hx (by omega), (h.1.2.2.2.1 x hx).2.2.2]
  rfl
theorem c_boxAt (hp : PL D hi P) (h : CP s P A) (hA : WF A) (hx : x < q_nc A) {e : Nat} (he : e < 2) : F_Plan_boxAt N (mkM h0 B D hi z s) (B + P) (nI x) (nI e) = some (nI (if e = 0 then q_fr A x else q_tb A x), (mkM h0 B D hi z s)) := by
  have := hA.1.2.2.1
  unfold F_Plan_boxAt F_Plan_boxAt_14_2
  rw [pl_rc hp, if_pos rfl, pl_1 hp]
  dsimp only [Option.bind_some]
  by_cases h0e : e = 0
  · rw [if_pos (by rw [h0e]; rfl), if_pos h0e, L_0, c_at (pl_L1 hp) h.1.2.1 (by omega) hx (by omega), (h.1.2.2.2.1 x hx).1]
    rfl
  · rw [if_neg (nI_ne0 (by omega) (by omega)), if_neg h0e, L_1, c_at (pl_L1 hp) h.1.2.1 (by omega) hx (by omega), (h.1.2.2.2.1 x hx).2.1]
    rfl
theorem c_hasCable_t (hp : PL D hi P) (h : CP s P A) (hA : WF A) (hx : x < q_nc A) : F_Plan_hasCable N (mkM h0 B D hi z s) (B + P) (nI x) = some (1, (mkM h0 B D hi z s)) := by
  have := hA.1.2.2.1
  unfold F_Plan_hasCable
  rw [pl_rc hp, if_pos rfl, pl_1 hp]
  dsimp only [Option.bind_some]
  rw [c_has_t (pl_L1 hp) h.1.2.1 (by omega) hx]
  rfl
theorem c_hasCable_f (hp : PL D hi P) (h : CP s P A) (hA : WF A) (hx : ¬ okn (q_nc A) i) : F_Plan_hasCable N (mkM h0 B D hi z s) (B + P) i = some (0, (mkM h0 B D hi z s)) := by
  have := hA.1.2.2.1
  unfold F_Plan_hasCable
  rw [pl_rc hp, if_pos rfl, pl_1 hp]
  dsimp only [Option.bind_some]
  rw [c_has_f (pl_L1 hp) h.1.2.1 (by omega) hx]
  rfl
theorem c_hasPair_t (hp : PL D hi P) (h : CP s P A) (hA : WF A) (hx : x < q_nc A) (hq : p < q_pr A x) : F_Plan_hasPair N (mkM h0 B D hi z s) (B + P) (nI x) (nI p) = some (1, (mkM h0 B D hi z s)) := by
  have := hA.1.2.2.1
  have hxx := hA.2.1 x hx
  unfold F_Plan_hasPair F_Plan_hasPair_29
  rw [pl_rc hp, if_pos rfl, pl_1 hp]
  dsimp only [Option.bind_some]
  rw [c_has_t (pl_L1 hp) h.1.2.1 (by omega) hx]
  dsimp only [Option.bind_some]
  rw [if_neg i10, if_neg (nI_pos (by omega)), c_pairsOf hp h hA hx]
  dsimp only [Option.bind_some]
  rw [if_neg (nI_ge hq (by omega)), if_pos (Or.inr rfl)]
theorem c_hasPair_f (hp : PL D hi P) (h : CP s P A) (hA : WF A) (hx : ¬ ∃ x p, x < q_nc A ∧ p < q_pr A x ∧ i = nI x ∧ j = nI p) : F_Plan_hasPair N (mkM h0 B D hi z s) (B + P) i j = some (0, (mkM h0 B D hi z s)) := by
  have := hA.1.2.2.1
  unfold F_Plan_hasPair F_Plan_hasPair_28 F_Plan_hasPair_29
  rw [pl_rc hp, if_pos rfl, pl_1 hp]
  dsimp only [Option.bind_some]
  by_cases h1 : okn (q_nc A) i
  · obtain ⟨x, hx1, rfl⟩ := h1
    have hxx := hA.2.1 x hx1
    rw [c_has_t (pl_L1 hp) h.1.2.1 (by omega) hx1]
    dsimp only [Option.bind_some]
    rw [if_neg i10]
    rcases okn_not (show q_pr A x < 2 ^ 31 by omega) (fun ⟨p, h2, h3⟩ => hx ⟨x, p, hx1, h2, rfl, h3⟩) with h2 | h2
    · rw [if_pos h2, if_pos (Or.inl rfl)]
    · by_cases h3 : j < 0
      · rw [if_pos h3, if_pos (Or.inl rfl)]
      · rw [if_neg h3, c_pairsOf hp h hA hx1]
        dsimp only [Option.bind_some]
        rw [if_pos h2, if_pos (Or.inl rfl)]
  · rw [c_has_f (pl_L1 hp) h.1.2.1 (by omega) h1]
    dsimp only [Option.bind_some]
    rw [if_pos rfl, if_pos (Or.inl rfl)]
theorem c_worlds (hp : PL D hi P) (h : CP s P A) (hA : WF A) : F_Plan_worlds N (mkM h0 B D hi z s) (B + P) = some (nI (2 ^ q_nt A), (mkM h0 B D hi z s)) := by
  unfold F_Plan_worlds
  rw [pl_rc hp, if_pos rfl, pl_7 hp]
  dsimp only [Option.bind_some]
  rw [c_size (pl_L17 hp), h.2.2.2.1.1]
  dsimp only [Option.bind_some]
  rw [sh1 hA.1.2.2.2.2.2.1]
theorem c_hasWorld_t (hp : PL D hi P) (h : CP s P A) (hA : WF A) {w : Nat} (hw : w < 2 ^ q_nt A) : F_Plan_hasWorld N (mkM h0 B D hi z s) (B + P) (nI w) = some (1, (mkM h0 B D hi z s)) := by
  have := pow10 hA.1.2.2.2.2.2.1
  unfold F_Plan_hasWorld F_Plan_hasWorld_17
  rw [pl_rc hp, if_pos rfl, if_neg (nI_pos (by omega)), c_worlds hp h hA]
  dsimp only [Option.bind_some]
  rw [if_neg (nI_ge hw (by omega)), if_pos (Or.inr rfl)]
theorem c_hasWorld_f (hp : PL D hi P) (h : CP s P A) (hA : WF A) (hw : ¬ okn (2 ^ q_nt A) i) : F_Plan_hasWorld N (mkM h0 B D hi z s) (B + P) i = some (0, (mkM h0 B D hi z s)) := by
  have := pow10 hA.1.2.2.2.2.2.1
  unfold F_Plan_hasWorld F_Plan_hasWorld_16 F_Plan_hasWorld_17
  rw [pl_rc hp, if_pos rfl, c_worlds hp h hA]
  dsimp only [Option.bind_some]
  rcases okn_not (show 2 ^ q_nt A < 2 ^ 31 by omega) hw with h2 | h2
  · rw [if_pos h2, if_pos (Or.inl rfl)]
  · by_cases h3 : i < 0
    · rw [if_pos h3, if_pos (Or.inl rfl)]
    · rw [if_neg h3, if_pos h2, if_pos (Or.inl rfl)]
theorem c_hasBox_t (hp : PL D hi P) (h : CP s P A) (hA : WF A) (hx : x < q_nb A) : F_Plan_hasBox N (mkM h0 B D hi z s) (B + P) (nI x) = some (1, (mkM h0 B D hi z s)) := by
  have := hA.1.2.1
  unfold F_Plan_hasBox F_Plan_hasBox_17
  rw [pl_rc hp, if_pos rfl, if_neg (nI_pos (by omega)), pl_0 hp, Option.bind_some, h.1.1, if_neg (nI_ge hx (by omega)), if_pos (Or.inr rfl)]
theorem c_hasBox_f (hp : PL D hi P) (h : CP s P A) (hA : WF A) (hx : ¬ okn (q_nb A) i) : F_Plan_hasBox N (mkM h0 B D hi z s) (B + P) i = some (0, (mkM h0 B D hi z s)) := by
  have := hA.1.2.1
  unfold F_Plan_hasBox F_Plan_hasBox_16 F_Plan_hasBox_17
  rw [pl_rc hp, if_pos rfl, pl_0 hp, Option.bind_some, h.1.1]
  rcases okn_not (show q_nb A < 2 ^ 31 by omega) hx with h2 | h2
  · rw [if_pos h2, if_pos (Or.inl rfl)]
  · by_cases h3 : i < 0
    · rw [if_pos h3, if_pos (Or.inl rfl)]
    · rw [if_neg h3, if_pos h2, if_pos (Or.inl rfl)]
theorem c_cableTo_t (hp : PL D hi P) (h : CP s P A) (hA : WF A) (hx : x < q_nb A) : F_Plan_cableTo N (mkM h0 B D hi z s) (B + P) (nI x) = some (cd (q_ff (q_tb A) x (q_nc A)), (mkM h0 B D hi z s)) := by
  have := hA.1.2.1
  unfold F_Plan_cableTo F_Plan_cableTo_20
  rw [pl_rc hp, if_pos rfl, c_hasBox_t hp h hA hx]
  dsimp only [Option.bind_some]
  rw [if_neg i10, pl_2 hp]
  dsimp only [Option.bind_some]
  rw [ar_v (pl_A3 hp), vat_nI (by omega) (by decide), h.1.2.2.2.2 x (by omega)]
  rfl
theorem c_cableTo_f (hp : PL D hi P) (h : CP s P A) (hA : WF A) (hx : ¬ okn (q_nb A) i) : F_Plan_cableTo N (mkM h0 B D hi z s) (B + P) i = some (-1, (mkM h0 B D hi z s)) := by
  unfold F_Plan_cableTo F_Plan_cableTo_20
  rw [pl_rc hp, if_pos rfl, c_hasBox_f hp h hA hx]
  dsimp only [Option.bind_some]
  rw [if_pos rfl]
end CL2
