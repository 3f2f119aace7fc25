/-! ===== which WORLDS fit: the class ===== -/
noncomputable def q_fc (A : AP) : Nat → Nat
  | 0 => 0
  | w + 1 => q_fc A w + @ite _ (FT A w) (Classical.propDecidable _) 1 0
theorem q_fc_t {A : AP} {w : Nat} (h : FT A w) : q_fc A (w + 1) = q_fc A w + 1 := by
  conv => lhs; unfold q_fc
  rw [if_pos h]
theorem q_fc_f {A : AP} {w : Nat} (h : ¬ FT A w) : q_fc A (w + 1) = q_fc A w := by
  conv => lhs; unfold q_fc
  rw [if_neg h]
  rfl
theorem q_fc_le {A : AP} : ∀ w, q_fc A w ≤ w := by
  intro w
  induction w with
  | zero => exact Nat.le_refl 0
  | succ w ih =>
    by_cases h : FT A w
    · rw [q_fc_t h]; omega
    · rw [q_fc_f h]; omega
theorem q_fc_mono {A : AP} {w n : Nat} (h : w ≤ n) : q_fc A w ≤ q_fc A n := by
  induction n with
  | zero => rw [show w = 0 by omega]; exact Nat.le_refl _
  | succ n ih =>
    by_cases hw : w = n + 1
    · rw [hw]; exact Nat.le_refl _
    · have := ih (by omega)
      by_cases hn : FT A n
      · rw [q_fc_t hn]; omega
      · rw [q_fc_f hn]; omega
theorem q_fc_lt {A : AP} {w n : Nat} (h : w < n) (hw : FT A w) : q_fc A w < q_fc A n := by
  have := q_fc_mono (A := A) (show w + 1 ≤ n by omega)
  rw [q_fc_t hw] at this
  omega
theorem q_fc_ex {A : AP} : ∀ n i, i < q_fc A n → ∃ w, w < n ∧ FT A w ∧ q_fc A w = i := by
  intro n
  induction n with
  | zero => intro i hi; exact absurd hi (by unfold q_fc; omega)
  | succ n ih =>
    intro i hi
    by_cases hn : FT A n
    · rw [q_fc_t hn] at hi
      by_cases h : i = q_fc A n
      · exact ⟨n, by omega, hn, h.symm⟩
      · obtain ⟨w, h1, h2⟩ := ih i (by omega)
        exact ⟨w, by omega, h2⟩
    · rw [q_fc_f hn] at hi
      obtain ⟨w, h1, h2⟩ := ih i hi
      exact ⟨w, by omega, h2⟩
/-- the fitting WORLDS below n are listed -/
def FLs (s : mst) (P : Nat) (A : AP) (n : Nat) : Prop := s.1 (P + 24) 3 = nI (q_fc A n) ∧ ∀ w, w < n → FT A w → s.1 (P + 26) (q_fc A w) = nI w
/-- the sheet of PLAN t -/
def SH (D : Nat → pd) (hi : Nat) (ow : Nat → Nat) (s : mst) (t P : Nat) (A : AP) : Prop := SHr D hi ow s t P A ∧ (s.1 (P + 24) 4 = nI 0 ∨ (s.1 (P + 24) 4 = nI 1 ∧ FLs s P A (2 ^ q_nt A)))
def KG (ow : Nat → Nat) (hi t k : Nat) : Prop := (6 ≤ k ∧ k ≤ 51) ∨ (64 * (t + 1) + 24 ≤ ow k ∧ ow k ≤ 64 * (t + 1) + 50) ∨ hi ≤ k
theorem KF_KG {ow : Nat → Nat} {hi t k : Nat} (h : KF ow hi t k) : KG ow hi t k := by
  unfold KF at h
  unfold KG
  omega
theorem Fg_ex {D D' : Nat → pd} {hi hi' t : Nat} {ow ow' : Nat → Nat} {s s' s'' : mst} (e : EX D hi ow D' hi' ow') (h : Fe (KG ow hi t) s s') (h' : Fe (KG ow' hi' t) s' s'') : Fe (KG ow hi t) s s'' := by
  intro k hk
  have h1 : k < hi := by unfold KG at hk; omega
  refine (h' k ?_).trans (h k hk)
  intro hk'
  unfold KG at hk hk'
  rw [(e.2 k h1).2] at hk'
  have := e.1
  omega
theorem KG_block {ow : Nat → Nat} {hi t P : Nat} (hO : OB ow t P) (hP : P = 58 ∨ 130 ≤ P) (hPh : P + 26 < hi) : ∀ k, P ≤ k → k < P + 24 → ¬ KG ow hi t k := by
  intro k h1 h2 hk
  have := hO (k - P) (by omega)
  rw [show P + (k - P) = k by omega] at this
  unfold KG at hk
  omega
section FTS
variable {h0 : Nat → pm_C} {B : Nat} {D : Nat → pd} {hi z : Nat} {s : mst} {N P t : Nat} {A : AP} {ow : Nat → Nat}
theorem andn24 {a c : Nat} (ha : a < 2 ^ 24) : ∃ v, nI a &&& (nI c ^^^ (-1)) = nI v ∧ v < 2 ^ 24 ∧ ∀ j, v.testBit j = true ↔ a.testBit j = true ∧ ¬ c.testBit j = true := by
  have hlt : ∀ j, a.testBit j = true → j < 24 := by
    intro j h1
    apply Classical.byContradiction
    intro h4
    have := Nat.testBit_lt_two_pow (x := a) (i := j) (Nat.lt_of_lt_of_le ha (Nat.pow_le_pow_right (by decide) (by omega)))
    rw [this] at h1
    exact absurd h1 (by decide)
  have hon : ∀ j, j < 24 → (4294967295 : Nat).testBit j = true := by
    intro j hj
    rw [show 4294967295 = 2 ^ 32 - 1 by decide, Nat.testBit_two_pow_sub_one]
    exact decide_eq_true (by omega)
  refine ⟨a &&& (c ^^^ 4294967295), by rw [n1_nIb, nI_xor, nI_and], Nat.lt_of_le_of_lt Nat.and_le_left ha, fun j => ?_⟩
  rw [Nat.testBit_and, Nat.testBit_xor, Bool.and_eq_true]
  constructor
  · intro ⟨h1, h2⟩
    refine ⟨h1, fun h3 => ?_⟩
    rw [h3, hon j (hlt j h1)] at h2
    exact absurd h2 (by decide)
  · intro ⟨h1, h2⟩
    refine ⟨h1, ?_⟩
    have h6 : c.testBit j = false := by
      cases hc : c.testBit j with
      | false => rfl
      | true => exact absurd hc h2
    rw [h6, hon j (hlt j h1)]
    rfl
theorem tb_lt {v j m : Nat} (hv : v < 2 ^ m) (h : v.testBit j = true) : j < m := by
  apply Classical.byContradiction
  intro h4
  have := Nat.testBit_lt_two_pow (x := v) (i := j) (Nat.lt_of_lt_of_le hv (Nat.pow_le_pow_right (by decide) (by omega)))
  rw [this] at h
  exact absurd h (by decide)
theorem col_keep2 {s' : mst} {K : Nat → Prop} (hC : COL D hi ow s t P) (hO : OB ow t P) (hm : Fe K s s') (hK : ∀ k, ow k = 64 * (t + 1) + 25 ∨ (64 * (t + 1) + 27 ≤ ow k ∧ ow k ≤ 64 * (t + 1) + 50) → ¬ K k) : COL D hi ow s' t P ∧ s'.1 (P + 25) = s.1 (P + 25) ∧ (∀ j w, j < 24 → has s P j → cv s' P j w = cv s P j w) := by
  have e25 : s'.1 (P + 25) = s.1 (P + 25) := hm _ (hK _ (Or.inl (hO 25 (by omega))))
  refine ⟨?_, e25, fun j w hj hh => ?_⟩
  · unfold COL
    rw [e25]
    exact hC
  · unfold cv
    rw [e25]
    rcases hC j hj with h1 | ⟨K', h1, h2, h3, h4⟩
    · exact absurd h1 hh
    · rw [h1, nS_nI h2, hm K' (hK K' (Or.inr ⟨by omega, by omega⟩))]
/-- columns that are wanted are ready -/
theorem c_fillS (hN : 2000 ≤ N) (hf : FX D hi) (hp : PL D hi P) (hA : WF A) (hcp : CP s P A) (hP : P = 58 ∨ 130 ≤ P) (hb : hi + 100 < 2 ^ 31) (hO : OB ow t P) (hOF : OF ow) {W : Nat} (hW : W < 2 ^ 24) (hWe : ∀ j, W.testBit j = true → j < 2 * q_ne A) (hS : SHr D hi ow s t P A) : ∃ D' hi' z' ow' s', F_Bench_fill N (mkM h0 B D hi z s) (B + 5) (B + P) (nI W) = some (mkM h0 B D' hi' z' s') ∧ EX D hi ow D' hi' ow' ∧ Fe (KF ow hi t) s s' ∧ SHr D' hi' ow' s' t P A ∧ (∀ i, i ≠ 2 → s'.1 (P + 24) i = s.1 (P + 24) i) ∧ hi' + nu s' P = hi + nu s P ∧ z' + 1024 * nu s' P = z + 1024 * nu s P ∧ ∀ j, W.testBit j = true → has s' P j ∧ ∀ w, w < 2 ^ q_nt A → ∃ v, cv s' P j w = nI v ∧ WD A (j / 2) w (0, 0) (j % 2) v := by
  obtain ⟨hC, r, r1, r2, r3⟩ := id hS
  obtain ⟨M, m1, m2, m3⟩ := andn24 (a := W) (c := r) hW
  unfold F_Bench_fill
  rw [rcm_5 hf, if_pos rfl, pl_11 hp]
  dsimp only [Option.bind_some]
  rw [sh_2 hp, r1]
  dsimp only [Option.bind_some]
  rw [m1]
  by_cases h0M : M = 0
  · rw [if_pos (by rw [h0M]; rfl)]
    refine ⟨D, hi, z, ow, s, rfl, EX_r, fun _ _ => rfl, hS, fun _ _ => rfl, rfl, rfl, fun j hj => ?_⟩
    have hr : r.testBit j = true := by
      apply Classical.byContradiction
      intro hn
      have := (m3 j).mpr ⟨hj, hn⟩
      rw [h0M, Nat.zero_testBit] at this
      exact absurd this (by decide)
    exact (r3 j hr).2
  · rw [if_neg (nI_ne0 (by omega) (by omega))]
    obtain ⟨D', hi', z', ow', s', f1, f2, f3, f4, f5, f6, f7, f8, f9, f10⟩ := c_fillw (N := N) (h0 := h0) (B := B) (z := z) hN hf hp hA hcp hP hb hO hOF m2 (fun j hj => hWe j ((m3 j).mp hj).1) hC
    have hrM : ∀ j, j < 24 → (r.testBit j = true ∨ M.testBit j = true) → has s' P j ∧ ∀ w, w < 2 ^ q_nt A → ∃ v, cv s' P j w = nI v ∧ WD A (j / 2) w (0, 0) (j % 2) v := by
      intro j hj hh
      by_cases hMj : M.testBit j = true
      · exact f9 j hj hMj
      · have hr := hh.resolve_right hMj
        obtain ⟨a1, a2, a3⟩ := r3 j hr
        obtain ⟨b1, b2⟩ := f10 j hj hMj a2
        refine ⟨b1, fun w hw => ?_⟩
        obtain ⟨v, c1, c2⟩ := a3 w hw
        exact ⟨v, by rw [b2 w]; exact c1, c2⟩
    refine ⟨D', hi', z', ow', s', f1, f2, f3, ⟨f4, r ||| M, f5 r r1, Nat.or_lt_two_pow r2 m2, fun j hj => ?_⟩, f6, f7, f8, fun j hj => ?_⟩
    · rw [Nat.testBit_or, Bool.or_eq_true] at hj
      have hj24 : j < 24 := by
        rcases hj with hj | hj
        · exact tb_lt r2 hj
        · exact tb_lt m2 hj
      refine ⟨?_, hrM j hj24 hj⟩
      rcases hj with hj | hj
      · exact (r3 j hj).1
      · exact hWe j ((m3 j).mp hj).1
    · refine hrM j (tb_lt hW hj) ?_
      by_cases hr : r.testBit j = true
      · exact Or.inl hr
      · exact Or.inr ((m3 j).mpr ⟨hj, hr⟩)
theorem c_columnOf {S : pm_S} {k wet : Nat} (hw : wet ≤ 1) : F_Sheet_columnOf N S (nI k) (nI wet) = some (nI (2 * k + wet), S) := by
  unfold F_Sheet_columnOf F_Sheet_columnOf_12
  have : wet = 0 ∨ wet = 1 := by omega
  rcases this with rfl | rfl
  · rw [if_pos nI_0, L_2, nI_mul, L_0, nI_add]
  · rw [if_neg (by decide), L_2, nI_mul, L_1, nI_add]
theorem c_columnOfReading (hf : FX D hi) (hp : PL D hi P) (hA : WF A) (hcp : CP s P A) {k : Nat} (hk : k < q_nr A) : F_Bench_columnOfReading N (mkM h0 B D hi z s) (B + 5) (B + P) (nI k) = some (nI (2 * q_rt A k + q_rw A k), (mkM h0 B D hi z s)) := by
  have hc := hA.1
  unfold WFc at hc
  obtain ⟨w1, w2, w3⟩ := hA.2.2.2.2.2.2.1 k hk
  obtain ⟨t0, t1, t2⟩ := hcp.2.2.2.2.2.1.2.2 k hk
  have hcn := hcp.2.2.2.2.2.1.1
  have at_ : ∀ (q : Nat), q < 5 → F_Ledger_at N (mkM h0 B D hi z s) (B + (P + 21)) (nI k) (nI q) = some (s.1 (P + 21 + 1) (5 * k + q), (mkM h0 B D hi z s)) := fun q hq => c_at (pl_L21 hp) hcn (by omega) hk hq
  unfold F_Bench_columnOfReading F_Bench_columnOfReading_27
  rw [rcm_5 hf, if_pos rfl, pl_9 hp]
  dsimp only [Option.bind_some]
  rw [L_0, at_ 0 (by omega), t0]
  dsimp only [Option.bind_some]
  rw [pl_9 hp]
  dsimp only [Option.bind_some]
  rw [L_1, at_ 1 (by omega), t1]
  dsimp only [Option.bind_some]
  have : q_rw A k = 0 ∨ q_rw A k = 1 := by omega
  rcases this with h | h
  · rw [h, if_neg (by decide), c_columnOf (by omega)]
    rfl
  · rw [h, if_pos rfl, c_columnOf (by omega)]
    rfl
theorem sh1b {n : Nat} (h : n < 31) : (1 : Int32) <<< (nI n &&& 31) = nI (2 ^ n) := by
  have h2 : (2 : Nat) ^ n < 2 ^ 31 := Nat.pow_lt_pow_right (by decide) h
  have := nI_shl (w := 1) (k := n) (by omega) (by omega)
  rw [Nat.one_mul] at this
  exact this
theorem c_columnsRead (hN : 2000 ≤ N) (hf : FX D hi) (hp : PL D hi P) (hA : WF A) (hcp : CP s P A) : ∃ W, F_Bench_columnsRead N (mkM h0 B D hi z s) (B + 5) (B + P) = some (nI W, (mkM h0 B D hi z s)) ∧ W < 2 ^ 24 ∧ ∀ j, W.testBit j = true ↔ ∃ k, k < q_nr A ∧ j = 2 * q_rt A k + q_rw A k := by
  have hc := hA.1
  unfold WFc at hc
  unfold F_Bench_columnsRead
  rw [rcm_5 hf, if_pos rfl]
  refine Exists.elim (lpE (F := fun g k (q : Int32 × mst) => F_Bench_columnsRead_4 N (B + 5) (B + P) g q.1 (nI k) (mkM h0 B D hi z (q.2))) (n := q_nr A) (I := fun k q => q.2 = s ∧ ∃ W, q.1 = nI W ∧ W < 2 ^ 24 ∧ ∀ j, W.testBit j = true ↔ ∃ k', k' < k ∧ j = 2 * q_rt A k' + q_rw A k') ?_ N 0 (nI 0, s) (by omega) (by omega) ⟨rfl, 0, rfl, by decide, fun j => by rw [Nat.zero_testBit]; exact ⟨fun h => absurd h (by decide), fun ⟨k', h, _⟩ => by omega⟩⟩) ?_
  · intro g k ⟨q1, q2⟩ hk ⟨j1, W, j2, j3, j4⟩
    dsimp only at j1 j2
    subst j1 j2
    obtain ⟨w1, w2, w3⟩ := hA.2.2.2.2.2.2.1 k hk
    refine ⟨(nI (W ||| 2 ^ (2 * q_rt A k + q_rw A k)), q2), ⟨rfl, _, rfl, lt_or2 j3 (by omega), fun j => ?_⟩, ?_⟩
    · rw [tb_or2, j4 j]
      constructor
      · intro h
        rcases h with ⟨k', h1, h2⟩ | h
        · exact ⟨k', by omega, h2⟩
        · exact ⟨k, by omega, h⟩
      · intro ⟨k', h1, h2⟩
        by_cases hkk : k' = k
        · subst hkk; exact Or.inr h2
        · exact Or.inl ⟨k', by omega, h2⟩
    · show B_Bench_columnsRead_4 N (F_Bench_columnsRead_4 N (B + 5) (B + P) g) (B + 5) (B + P) (nI W) (nI k) (mkM h0 B D hi z (q2)) = _
      unfold B_Bench_columnsRead_4
      rw [pl_9 hp]
      dsimp only [Option.bind_some]
      rw [c_size (pl_L21 hp), hcp.2.2.2.2.2.1.1]
      dsimp only [Option.bind_some]
      rw [if_neg (nI_ge hk (by omega)), c_columnOfReading hf hp hA hcp hk]
      dsimp only [Option.bind_some]
      rw [sh1b (by omega), nI_or, nI_1]
  · intro g ⟨⟨q1, q2⟩, ⟨j1, W, j2, j3, j4⟩, ee⟩
    dsimp only at j1 j2 ee
    subst j1 j2
    refine ⟨W, Eq.trans ee ?_, j3, j4⟩
    show B_Bench_columnsRead_4 N (F_Bench_columnsRead_4 N (B + 5) (B + P) g) (B + 5) (B + P) (nI W) (nI (q_nr A)) (mkM h0 B D hi z (q2)) = _
    unfold B_Bench_columnsRead_4 F_Bench_columnsRead_32
    rw [pl_9 hp]
    dsimp only [Option.bind_some]
    rw [c_size (pl_L21 hp), hcp.2.2.2.2.2.1.1]
    dsimp only [Option.bind_some]
    rw [if_pos (nI_le (Nat.le_refl _) (by omega))]
theorem c_fits (hN : 2000 ≤ N) (hf : FX D hi) (hp : PL D hi P) (hA : WF A) (hcp : CP s P A) (hC : COL D hi ow s t P) (hR : ∀ k, k < q_nr A → has s P (2 * q_rt A k + q_rw A k) ∧ ∀ w, w < 2 ^ q_nt A → ∃ v, cv s P (2 * q_rt A k + q_rw A k) w = nI v ∧ WD A (q_rt A k) w (0, 0) (q_rw A k) v) {w : Nat} (hw : w < 2 ^ q_nt A) : (F_Bench_fits N (mkM h0 B D hi z s) (B + 5) (B + P) (nI w) = some (1, (mkM h0 B D hi z s)) ∧ FT A w) ∨ (F_Bench_fits N (mkM h0 B D hi z s) (B + 5) (B + P) (nI w) = some (0, (mkM h0 B D hi z s)) ∧ ¬ FT A w) := by
  have hc := hA.1
  unfold WFc at hc
  have hpw := pow10 hc.2.2.2.2.2.1
  unfold F_Bench_fits
  rw [rcm_5 hf, if_pos rfl]
  refine Exists.elim (lpQ (F := fun f k s => F_Bench_fits_2 N (B + 5) (B + P) (nI w) f (nI k) (mkM h0 B D hi z s)) (n := q_nr A) (I := fun k s' => s' = s ∧ ∀ k', k' < k → WD A (q_rt A k') w (0, 0) (q_rw A k') (q_rv A k')) (Q := fun r => (r = ((1 : Int32), (mkM h0 B D hi z s)) ∧ FT A w) ∨ (r = ((0 : Int32), (mkM h0 B D hi z s)) ∧ ¬ FT A w)) ?_ ?_ N 0 s (by omega) (by omega) ⟨rfl, fun k' hk' => by omega⟩) ?_
  · intro f k s' hk ⟨i1, i2⟩
    subst i1
    obtain ⟨w1, w2, w3⟩ := hA.2.2.2.2.2.2.1 k hk
    obtain ⟨a1, a2⟩ := hR k hk
    obtain ⟨v, a3, a4⟩ := a2 w hw
    have hv := WD_lt a4
    have hcn := hcp.2.2.2.2.2.1.1
    have t2 := (hcp.2.2.2.2.2.1.2.2 k hk).2.2
    have hst : F_Bench_fits_2 N (B + 5) (B + P) (nI w) (f + 1) (nI k) (mkM h0 B D hi z (s')) = if nI v = nI (q_rv A k) then F_Bench_fits_2 N (B + 5) (B + P) (nI w) f (nI (k + 1)) (mkM h0 B D hi z (s')) else some (0, (mkM h0 B D hi z (s'))) := by
      show B_Bench_fits_2 N (F_Bench_fits_2 N (B + 5) (B + P) (nI w) f) (B + 5) (B + P) (nI w) (nI k) (mkM h0 B D hi z (s')) = _
      unfold B_Bench_fits_2 F_Bench_fits_43
      rw [pl_9 hp]
      dsimp only [Option.bind_some]
      rw [c_size (pl_L21 hp), hcn]
      dsimp only [Option.bind_some]
      rw [if_neg (nI_ge hk (by omega)), pl_11 hp]
      dsimp only [Option.bind_some]
      rw [c_columnOfReading hf hp hA hcp hk]
      dsimp only [Option.bind_some]
      rw [c_written hp hC (by omega) (by omega) a1, a3]
      dsimp only [Option.bind_some]
      rw [pl_9 hp]
      dsimp only [Option.bind_some]
      rw [L_2, c_at (pl_L21 hp) hcn (by omega) hk (by omega), t2]
      dsimp only [Option.bind_some]
      rw [nI_1]
    by_cases c : v = q_rv A k
    · left
      refine ⟨s', ⟨rfl, fun k' hk' => ?_⟩, hst.trans ?_⟩
      · by_cases hkk : k' = k
        · rw [hkk, ← c]; exact a4
        · exact i2 k' (by omega)
      · rw [if_pos (by rw [c])]
    · right
      refine ⟨_, Or.inr ⟨rfl, fun hft => c (WD_u a4 (hft k hk))⟩, hst.trans ?_⟩
      rw [if_neg (fun e => c ((nI_eq (by omega) (by omega)).mp e))]
  · intro f s' ⟨i1, i2⟩
    subst i1
    refine ⟨_, Or.inl ⟨rfl, i2⟩, ?_⟩
    show B_Bench_fits_2 N (F_Bench_fits_2 N (B + 5) (B + P) (nI w) f) (B + 5) (B + P) (nI w) (nI (q_nr A)) (mkM h0 B D hi z (s')) = _
    unfold B_Bench_fits_2 F_Bench_fits_51
    rw [pl_9 hp]
    dsimp only [Option.bind_some]
    rw [c_size (pl_L21 hp), hcp.2.2.2.2.2.1.1]
    dsimp only [Option.bind_some]
    rw [if_pos (nI_le (Nat.le_refl _) (by omega))]
  · intro r ⟨hr, e⟩
    rcases hr with ⟨rfl, hr⟩ | ⟨rfl, hr⟩
    · exact Or.inl ⟨e, hr⟩
    · exact Or.inr ⟨e, hr⟩
theorem c_findFits (hN : 2000 ≤ N) (hf : FX D hi) (hp : PL D hi P) (hA : WF A) (hcp : CP s P A) (hP : P = 58 ∨ 130 ≤ P) (hb : hi + 100 < 2 ^ 31) (hO : OB ow t P) (hOF : OF ow) (hS : SH D hi ow s t P A) : ∃ D' hi' z' ow' s', F_Bench_findFits N (mkM h0 B D hi z s) (B + 5) (B + P) = some (mkM h0 B D' hi' z' s') ∧ EX D hi ow D' hi' ow' ∧ Fe (KG ow hi t) s s' ∧ SH D' hi' ow' s' t P A ∧ FLs s' P A (2 ^ q_nt A) ∧ hi' + nu s' P = hi + nu s P ∧ z' + 1024 * nu s' P = z + 1024 * nu s P := by
  have hc := hA.1
  unfold WFc at hc
  have hpw := pow10 hc.2.2.2.2.2.1
  obtain ⟨hSr, hfr⟩ := id hS
  unfold F_Bench_findFits
  rw [rcm_5 hf, if_pos rfl, pl_11 hp]
  dsimp only [Option.bind_some]
  rw [sh_4 hp]
  dsimp only [Option.bind_some]
  rcases hfr with h0f | ⟨h1f, hL⟩
  · rw [h0f, if_pos nI_0]
    obtain ⟨W, e1, hW, hWb⟩ := c_columnsRead (N := N) (h0 := h0) (B := B) (z := z) hN hf hp hA hcp
    rw [e1]
    dsimp only [Option.bind_some]
    obtain ⟨D1, hi1, z1, ow1, s1, f1, f2, f3, f4, f5, f6, f7, f8⟩ := c_fillS (N := N) (h0 := h0) (B := B) (z := z) hN hf hp hA hcp hP hb hO hOF hW (fun j hj => by
      obtain ⟨k, k1, k2⟩ := (hWb j).mp hj
      obtain ⟨w1, w2, w3⟩ := hA.2.2.2.2.2.2.1 k k1
      omega) hSr
    rw [f1]
    dsimp only [Option.bind_some]
    have hPh : P + 26 < hi := (pl_A26 hp).1
    have p1 := FX_ex f2 hf
    have p2 := PL_ex f2 hp
    have p3 : CP s1 P A := CP_fe hcp f3 (KF_block hO hP hPh)
    have p4 : OB ow1 t P := fun r hr => by rw [(f2.2 (P + r) (by omega)).2]; exact hO r hr
    have h130 := hf.1
    have p5 : OF ow1 := fun k hk => by rw [(f2.2 k (by omega)).2]; exact hOF k hk
    have p6 := (pl_A26 p2).1
    have r26 := pl_A26 p2
    rw [sw_3 p2]
    dsimp only [Option.bind_some]
    have o24 := p4 24 (by omega)
    have o26 := p4 26 (by omega)
    have keep : ∀ s', Fe (fun k => k = P + 24 ∨ k = P + 26) s1 s' → COL D1 hi1 ow1 s' t P ∧ s'.1 (P + 25) = s1.1 (P + 25) ∧ (∀ j w, j < 24 → has s1 P j → cv s' P j w = cv s1 P j w) ∧ CP s' P A := by
      intro s' hs'
      obtain ⟨a1, a2, a3⟩ := col_keep2 f4.1 p4 hs' (fun k h1 h3 => by
        rcases h3 with h3 | h3
        · rw [h3, o24] at h1; omega
        · rw [h3, o26] at h1; omega)
      exact ⟨a1, a2, a3, CP_fe p3 hs' (fun k h1 h2 h3 => by omega)⟩
    have hR1 : ∀ s', Fe (fun k => k = P + 24 ∨ k = P + 26) s1 s' → ∀ k, k < q_nr A → has s' P (2 * q_rt A k + q_rw A k) ∧ ∀ w, w < 2 ^ q_nt A → ∃ v, cv s' P (2 * q_rt A k + q_rw A k) w = nI v ∧ WD A (q_rt A k) w (0, 0) (q_rw A k) v := by
      intro s' hs' k hk
      obtain ⟨w1, w2, w3⟩ := hA.2.2.2.2.2.2.1 k hk
      obtain ⟨a1, a2⟩ := f8 _ ((hWb _).mpr ⟨k, hk, rfl⟩)
      obtain ⟨_, b2, b3, _⟩ := keep s' hs'
      refine ⟨by unfold has; rw [b2]; exact a1, fun w hw => ?_⟩
      obtain ⟨v, c1, c2⟩ := a2 w hw
      rw [show (2 * q_rt A k + q_rw A k) / 2 = q_rt A k by omega, show (2 * q_rt A k + q_rw A k) % 2 = q_rw A k by omega] at c2
      exact ⟨v, by rw [b3 _ w (by omega) a1]; exact c1, c2⟩
    refine Exists.elim (lpE (F := fun g w s => F_Bench_findFits_30 N (B + 5) (B + P) (B + (P + 24)) g (nI w) (mkM h0 B D1 hi1 z1 s)) (n := 2 ^ q_nt A) (I := fun w s' => Fe (fun k => k = P + 24 ∨ k = P + 26) s1 s' ∧ FLs s' P A w ∧ ∀ i, i ≠ 3 → s'.1 (P + 24) i = s1.1 (P + 24) i) ?_ N 0 (wr1 s1 (P + 24) 3 0) (Nat.zero_le _) (by omega) ⟨fun k hk => wr1_ne (fun e => hk (Or.inl e)), ⟨by rw [wr1_at, if_pos rfl]; rfl, fun w hw => by omega⟩, fun i hi' => by rw [wr1_at, if_neg hi']⟩) ?_
    · intro g w s' hw ⟨i1, i2, i3⟩
      obtain ⟨b1, b2, b3, b4⟩ := keep s' i1
      have hle := q_fc_le (A := A) w
      have hst : F_Bench_findFits_30 N (B + 5) (B + P) (B + (P + 24)) (g + 1) (nI w) (mkM h0 B D1 hi1 z1 s') = (F_Bench_fits N (mkM h0 B D1 hi1 z1 s') (B + 5) (B + P) (nI w)).bind fun (v11, S10) => if v11 = 0 then F_Bench_findFits_30 N (B + 5) (B + P) (B + (P + 24)) g (nI (w + 1)) S10 else ((F_Sheet_addFit N S10 (B + (P + 24)) (nI w)).bind fun S12 => F_Bench_findFits_30 N (B + 5) (B + P) (B + (P + 24)) g (nI (w + 1)) S12) := by
        show B_Bench_findFits_30 N (F_Bench_findFits_30 N (B + 5) (B + P) (B + (P + 24)) g) (B + 5) (B + P) (B + (P + 24)) (nI w) (mkM h0 B D1 hi1 z1 s') = _
        unfold B_Bench_findFits_30 F_Bench_findFits_52
        rw [c_worlds p2 b4 hA]
        dsimp only [Option.bind_some]
        rw [if_neg (nI_ge hw (by omega)), nI_1]
      rcases c_fits (N := N) (h0 := h0) (B := B) (z := z1) hN p1 p2 hA b4 b1 (hR1 s' i1) hw with ⟨k1, k2⟩ | ⟨k1, k2⟩
      · refine ⟨wr1 (wr1 s' (P + 26) (q_fc A w) (nI w)) (P + 24) 3 (nI (q_fc A w + 1)), ⟨fun k hk => ?_, ⟨?_, fun w' hw' hft => ?_⟩, fun i hi' => ?_⟩, hst.trans ?_⟩
        · rw [wr1_ne (fun e => hk (Or.inl e)), wr1_ne (fun e => hk (Or.inr e))]
          exact i1 k hk
        · rw [wr1_at, if_pos rfl, q_fc_t k2]
        · rw [wr1_ne (by omega), wr1_at]
          by_cases hww : w' = w
          · rw [hww, if_pos rfl]
          · have := q_fc_lt (show w' < w by omega) hft
            rw [if_neg (by omega)]
            exact i2.2 w' (by omega) hft
        · rw [wr1_at, if_neg hi', wr1_ne (by omega)]
          exact i3 i hi'
        · rw [k1]
          dsimp only [Option.bind_some]
          rw [if_neg i10]
          have hadd : F_Sheet_addFit N (mkM h0 B D1 hi1 z1 s') (B + (P + 24)) (nI w) = some (mkM h0 B D1 hi1 z1 (wr1 (wr1 s' (P + 26) (q_fc A w) (nI w)) (P + 24) 3 (nI (q_fc A w + 1)))) := by
            unfold F_Sheet_addFit F_Sheet_addFit_34
            rw [sh_rc p2, if_pos rfl, sh_3 p2, i2.1]
            dsimp only [Option.bind_some]
            rw [sh_1 p2]
            dsimp only [Option.bind_some]
            rw [ar_n r26]
            dsimp only [Option.bind_some]
            rw [if_neg (nI_ge (show q_fc A w < 1024 by omega) (by decide)), ar_s r26, ws_nI (by omega) (by decide)]
            dsimp only [Option.bind_some]
            rw [sh_3 p2, wr1_ne (by omega), i2.1]
            dsimp only [Option.bind_some]
            rw [nI_1, sw_3 p2]
            rfl
          rw [hadd]
          rfl
      · refine ⟨s', ⟨i1, ⟨by rw [q_fc_f k2]; exact i2.1, fun w' hw' hft => ?_⟩, i3⟩, hst.trans ?_⟩
        · by_cases hww : w' = w
          · rw [hww] at hft; exact absurd hft k2
          · exact i2.2 w' (by omega) hft
        · rw [k1]
          rfl
    · intro g ⟨s', ⟨i1, i2, i3⟩, ee⟩
      obtain ⟨b1, b2, b3, b4⟩ := keep s' i1
      have hfin : Fe (fun k => k = P + 24 ∨ k = P + 26) s1 (wr1 s' (P + 24) 4 1) := fun k hk => by rw [wr1_ne (fun e => hk (Or.inl e))]; exact i1 k hk
      obtain ⟨c1, c2, c3, c4⟩ := keep _ hfin
      have hFL : FLs (wr1 s' (P + 24) 4 1) P A (2 ^ q_nt A) := by
        refine ⟨by rw [wr1_at, if_neg (by decide)]; exact i2.1, fun w hw hft => ?_⟩
        rw [wr1_ne (by omega)]
        exact i2.2 w hw hft
      refine ⟨D1, hi1, z1, ow1, wr1 s' (P + 24) 4 1, Eq.trans ee ?_, f2, ?_, ⟨⟨c1, ?_⟩, Or.inr ⟨by rw [wr1_at, if_pos rfl]; rfl, hFL⟩⟩, hFL, ?_, ?_⟩
      · show B_Bench_findFits_30 N (F_Bench_findFits_30 N (B + 5) (B + P) (B + (P + 24)) g) (B + 5) (B + P) (B + (P + 24)) (nI (2 ^ q_nt A)) (mkM h0 B D1 hi1 z1 s') = _
        unfold B_Bench_findFits_30 F_Bench_findFits_58
        rw [c_worlds p2 b4 hA]
        dsimp only [Option.bind_some]
        rw [if_pos (nI_le (Nat.le_refl _) (by omega)), sw_4 p2 (Or.inr rfl)]
        rfl
      · refine Fg_ex f2 (Fe_m f3 (fun k hk => KF_KG hk)) (Fe_m hfin (fun k hk => ?_))
        unfold KG
        rcases hk with hk | hk
        · rw [hk]; omega
        · rw [hk]; omega
      · obtain ⟨r, r1, r2, r3⟩ := f4.2
        refine ⟨r, by rw [wr1_at, if_neg (by decide), i3 2 (by decide)]; exact r1, r2, fun j hj => ?_⟩
        obtain ⟨a1, a2, a3⟩ := r3 j hj
        refine ⟨a1, by unfold has; rw [c2]; exact a2, fun w hw => ?_⟩
        obtain ⟨v, a4, a5⟩ := a3 w hw
        exact ⟨v, by rw [c3 j w (tb_lt r2 hj) a2]; exact a4, a5⟩
      · unfold nu
        rw [c2]
        exact f6
      · unfold nu
        rw [c2]
        exact f7
  · rw [h1f, if_neg (by decide)]
    exact ⟨D, hi, z, ow, s, rfl, EX_r, fun _ _ => rfl, hS, hL, rfl, rfl⟩
end FTS
