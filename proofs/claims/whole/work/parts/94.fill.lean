/-! ===== the sheet is filled ===== -/
/-- cells that filling the sheet of PLAN t may change -/
def KF (ow : Nat → Nat) (hi t k : Nat) : Prop := (6 ≤ k ∧ k ≤ 51) ∨ ow k = 64 * (t + 1) + 24 ∨ ow k = 64 * (t + 1) + 25 ∨ (64 * (t + 1) + 27 ≤ ow k ∧ ow k ≤ 64 * (t + 1) + 50) ∨ hi ≤ k
def KC (ow : Nat → Nat) (hi t k : Nat) : Prop := ow k = 64 * (t + 1) + 25 ∨ (64 * (t + 1) + 27 ≤ ow k ∧ ow k ≤ 64 * (t + 1) + 50) ∨ hi ≤ k
theorem Fe_ex {D D' : Nat → pd} {hi hi' t : Nat} {ow ow' : Nat → Nat} {s s' s'' : mst} (e : EX D hi ow D' hi' ow') (h : Fe (KF ow hi t) s s') (h' : Fe (KF ow' hi' t) s' s'') : Fe (KF ow hi t) s s'' := by
  intro k hk
  have h1 : k < hi := by unfold KF at hk; omega
  refine (h' k ?_).trans (h k hk)
  intro hk'
  unfold KF at hk hk'
  rw [(e.2 k h1).2] at hk'
  have := e.1
  omega
/-- whose the cells are -/
def OB (ow : Nat → Nat) (t P : Nat) : Prop := ∀ r, r < 27 → ow (P + r) = 64 * (t + 1) + r
def OF (ow : Nat → Nat) : Prop := ∀ k, k < 58 → ow k = 0
def COL (D : Nat → pd) (hi : Nat) (ow : Nat → Nat) (s : mst) (t P : Nat) : Prop := ∀ j, j < 24 → s.1 (P + 25) j = -1 ∨ ∃ K, s.1 (P + 25) j = nI K ∧ K < 2 ^ 31 ∧ AR D hi K 1024 ∧ ow K = 64 * (t + 1) + 27 + j
def nuc (f : Nat → Int32) : Nat → Nat
  | 0 => 0
  | n + 1 => nuc f n + if f n = -1 then 1 else 0
theorem nuc_c {f g : Nat → Int32} : ∀ n, (∀ i, i < n → f i = g i) → nuc f n = nuc g n := by
  intro n
  induction n with
  | zero => intro _; rfl
  | succ n ih =>
    intro h
    simp only [nuc]
    rw [ih (fun i hi => h i (by omega)), h n (by omega)]
theorem nuc_up {f : Nat → Int32} {j : Nat} {x : Int32} (h1 : f j = -1) (h2 : x ≠ -1) : ∀ n, j < n → nuc (upd f j x) n + 1 = nuc f n := by
  intro n
  induction n with
  | zero => intro h; omega
  | succ n ih =>
    intro h
    simp only [nuc]
    by_cases e : j = n
    · subst e
      rw [nuc_c (g := f) j (fun i hi => pk_un (by omega)), pk_us, if_neg h2, h1, if_pos rfl]
    · have := ih (by omega)
      rw [pk_un (fun z => e z.symm)]
      omega
theorem nuc_le {f : Nat → Int32} : ∀ n, nuc f n ≤ n := by
  intro n
  induction n with
  | zero => exact Nat.le_refl 0
  | succ n ih =>
    simp only [nuc]
    split <;> omega
def nu (s : mst) (P : Nat) : Nat := nuc (s.1 (P + 25)) 24
/-- a column is there; what stands in it -/
def has (s : mst) (P j : Nat) : Prop := s.1 (P + 25) j ≠ -1
def cv (s : mst) (P j w : Nat) : Int32 := s.1 (nS (s.1 (P + 25) j)) w
section FIL
variable {h0 : Nat → pm_C} {B : Nat} {D : Nat → pd} {hi z : Nat} {s : mst} {N P t : Nat} {A : AP} {ow : Nat → Nat}
/-- a step that leaves the sheets alone -/
theorem col_keep {s' : mst} {K : Nat → Prop} (hC : COL D hi ow s t P) (hO : OB ow t P) (hm : Fe K s s') (hK : ∀ k, 64 * (t + 1) + 25 ≤ ow k → ow k ≤ 64 * (t + 1) + 50 → ¬ K k) : COL D hi ow s' t P ∧ s'.1 (P + 25) = s.1 (P + 25) ∧ (∀ j w, j < 24 → has s P j → cv s' P j w = cv s P j w) := by
  have e25 : s'.1 (P + 25) = s.1 (P + 25) := hm _ (hK _ (by have := hO 25 (by omega); omega) (by have := hO 25 (by omega); omega))
  refine ⟨?_, e25, fun j w hj hh => ?_⟩
  · unfold COL
    rw [e25]
    exact hC
  · unfold cv
    rw [e25]
    rcases hC j hj with h1 | ⟨K', h1, h2, h3, h4⟩
    · exact absurd h1 hh
    · rw [h1, nS_nI h2, hm K' (hK K' (by omega) (by omega))]
theorem c_write (hp : PL D hi P) (hO : OB ow t P) (hC : COL D hi ow s t P) (hb : hi + 2 < 2 ^ 31) {j w : Nat} {x : Int32} (hj : j < 24) (hw : w < 1024) : ∃ D' hi' z' ow' s', F_Sheet_write N (mkM h0 B D hi z s) (B + (P + 24)) (nI j) (nI w) x = some (mkM h0 B D' hi' z' s') ∧ EX D hi ow D' hi' ow' ∧ COL D' hi' ow' s' t P ∧ Fe (KC ow hi t) s s' ∧ s'.1 (P + 24) = s.1 (P + 24) ∧ hi' + nu s' P = hi + nu s P ∧ z' + 1024 * nu s' P = z + 1024 * nu s P ∧ has s' P j ∧ cv s' P j w = x ∧ (∀ i, i < 24 → has s P i → has s' P i ∧ ∀ w', ¬ (i = j ∧ w' = w) → cv s' P i w' = cv s P i w') := by
  have o25 := hO 25 (by omega)
  have o24 := hO 24 (by omega)
  have h34 : ∀ (D1 : Nat → pd) (hi1 z1 : Nat) (s1 : mst) (K : Nat), PL D1 hi1 P → s1.1 (P + 25) j = nI K → K < 2 ^ 31 → AR D1 hi1 K 1024 → F_Sheet_write_34 N (B + (P + 24)) (nI j) (nI w) x (mkM h0 B D1 hi1 z1 s1) = some (mkM h0 B D1 hi1 z1 (wr1 s1 K w x)) := by
    intro D1 hi1 z1 s1 K hp1 hK1 hK2 hK3
    unfold F_Sheet_write_34
    rw [sh_0 hp1]
    dsimp only [Option.bind_some]
    rw [q_r (pl_C hp1).1 (pl_C hp1).2 (Or.inr rfl) hj (by decide), hK1, rof_nI hK2]
    dsimp only [Option.bind_some]
    rw [ar_s hK3, ws_nI hw (by decide)]
    rfl
  unfold F_Sheet_write
  rw [sh_rc hp, if_pos rfl, if_neg (nI_pos (by omega)), sh_0 hp]
  dsimp only [Option.bind_some]
  rw [q_n (pl_C hp).1 (pl_C hp).2 (Or.inr rfl)]
  dsimp only [Option.bind_some]
  rw [if_pos (nI_lt hj (by decide)), q_r (pl_C hp).1 (pl_C hp).2 (Or.inr rfl) hj (by decide)]
  rcases hC j hj with h1 | ⟨K, h1, h2, h3, h4⟩
  · rw [h1]
    have hr : rof B (-1) = none := by unfold rof; rw [if_pos rfl]
    rw [hr]
    dsimp only [Option.bind_some]
    have hna := nA_mk (h0 := h0) (B := B) (D := D) (hi := hi) (z := z) (s := s) (show 1024 ≤ 65536 by decide)
    have hna' : nA (mkM h0 B D hi z s) 0 1024 = some (B + hi, mkM h0 B (upD D hi (.inl (0, 1024))) (hi + 1) (z + 1024) (up1 s.1 hi (fun _ => 0), s.2)) := hna
    rw [hna']
    dsimp only [Option.bind_some]
    have hE : EX D hi ow (upD D hi (.inl (0, 1024))) (hi + 1) (updN ow hi (64 * (t + 1) + 27 + j)) := ⟨by omega, fun k hk => ⟨if_neg (by omega), updN_n (by omega)⟩⟩
    have hp1 := PL_ex hE hp
    have hK3 : AR (upD D hi (.inl (0, 1024))) (hi + 1) hi 1024 := ⟨by omega, if_pos rfl, by decide⟩
    have c25 := (pl_C hp).1
    rw [q_s (pl_C hp1).1 (pl_C hp1).2 hj (by decide) hK3 (by omega)]
    dsimp only [Option.bind_some]
    generalize hs2 : wr1 (up1 s.1 hi (fun _ => 0), s.2) (P + 25) j (nI hi) = s2
    have a25 : ∀ i, s2.1 (P + 25) i = if i = j then nI hi else s.1 (P + 25) i := by
      intro i
      rw [← hs2, wr1_at]
      by_cases hij : i = j
      · rw [if_pos hij, if_pos hij]
      · rw [if_neg hij, if_neg hij]
        show up1 s.1 hi (fun _ => 0) (P + 25) i = _
        rw [up1_ne (by omega)]
    have ane : ∀ k, k ≠ hi → k ≠ P + 25 → s2.1 k = s.1 k := by
      intro k k1 k2
      rw [← hs2, wr1_ne k2]
      exact up1_ne k1
    rw [h34 _ _ _ s2 hi hp1 (by rw [a25, if_pos rfl]) (by omega) hK3]
    have b25 : ∀ i, (wr1 s2 hi w x).1 (P + 25) i = if i = j then nI hi else s.1 (P + 25) i := by
      intro i
      rw [wr1_ne (by omega)]
      exact a25 i
    have hrow : (wr1 s2 hi w x).1 (P + 25) = upd (s.1 (P + 25)) j (nI hi) := by
      funext i
      rw [b25 i]
      rfl
    have hnu : nu (wr1 s2 hi w x) P + 1 = nu s P := by
      unfold nu
      rw [hrow]
      exact nuc_up h1 (nI_n1 (by omega)) 24 hj
    refine ⟨upD D hi (.inl (0, 1024)), hi + 1, z + 1024, updN ow hi (64 * (t + 1) + 27 + j), wr1 s2 hi w x, rfl, hE, fun i hi' => ?_, fun k hk => ?_, ?_, by omega, by omega, ?_, ?_, fun i hi' hh => ?_⟩
    · rw [b25 i]
      by_cases hij : i = j
      · rw [if_pos hij, hij]
        exact Or.inr ⟨hi, rfl, by omega, hK3, updN_s⟩
      · rw [if_neg hij]
        rcases hC i hi' with g1 | ⟨K, g1, g2, g3, g4⟩
        · exact Or.inl g1
        · exact Or.inr ⟨K, g1, g2, AR_ex hE g3, by rw [updN_n (by have := g3.1; omega)]; exact g4⟩
    · unfold KC at hk
      have k1 : k ≠ hi := by omega
      rw [wr1_ne k1, ane k k1 (fun e => by rw [e] at hk; omega)]
    · rw [wr1_ne (by omega), ane _ (by omega) (by omega)]
    · unfold has
      rw [b25, if_pos rfl]
      exact nI_n1 (by omega)
    · unfold cv
      rw [b25, if_pos rfl, nS_nI (by omega), wr1_at, if_pos rfl]
    · have hij : i ≠ j := fun e => hh (by rw [e]; exact h1)
      refine ⟨?_, fun w' _ => ?_⟩
      · unfold has
        rw [b25, if_neg hij]
        exact hh
      · unfold cv
        rw [b25, if_neg hij]
        rcases hC i hi' with g1 | ⟨K, g1, g2, g3, g4⟩
        · exact absurd g1 hh
        · rw [g1, nS_nI g2]
          have g5 := g3.1
          have k1 : K ≠ hi := by omega
          have k2 : K ≠ P + 25 := fun e => by rw [e, o25] at g4; omega
          rw [wr1_ne k1, ane K k1 k2]
  · rw [h1, rof_nI h2]
    dsimp only [Option.bind_some]
    rw [h34 D hi z s K hp h1 h2 h3]
    have hK25 : K ≠ P + 25 := fun e => by rw [e, o25] at h4; omega
    have hK24 : K ≠ P + 24 := fun e => by rw [e, o24] at h4; omega
    have e25 : (wr1 s K w x).1 (P + 25) = s.1 (P + 25) := wr1_ne (fun e => hK25 e.symm)
    refine ⟨D, hi, z, ow, wr1 s K w x, rfl, EX_r, ?_, fun k hk => ?_, ?_, ?_, ?_, ?_, ?_, fun i hi' hh => ?_⟩
    · unfold COL
      rw [e25]
      exact hC
    · refine wr1_ne (fun e => hk ?_)
      rw [e]
      unfold KC
      omega
    · exact wr1_ne (fun e => hK24 e.symm)
    · unfold nu
      rw [e25]
    · unfold nu
      rw [e25]
    · unfold has
      rw [e25, h1]
      exact nI_n1 h2
    · unfold cv
      rw [e25, h1, nS_nI h2, wr1_at, if_pos rfl]
    · refine ⟨by unfold has; rw [e25]; exact hh, fun w' hw' => ?_⟩
      unfold cv
      rw [e25]
      rcases hC i hi' with g1 | ⟨K', g1, g2, g3, g4⟩
      · exact absurd g1 hh
      · rw [g1, nS_nI g2]
        by_cases hij : i = j
        · subst hij
          have : K' = K := by
            have := g1.symm.trans h1
            exact (nI_eq g2 h2).mp this
          rw [this, wr1_at, if_neg (fun e => hw' ⟨rfl, e⟩)]
        · have : K' ≠ K := fun e => by rw [e] at g4; omega
          rw [wr1_ne this]
theorem c_written (hp : PL D hi P) (hC : COL D hi ow s t P) {j w : Nat} (hj : j < 24) (hw : w < 1024) (hh : has s P j) : F_Sheet_written N (mkM h0 B D hi z s) (B + (P + 24)) (nI j) (nI w) = some (cv s P j w, (mkM h0 B D hi z s)) := by
  rcases hC j hj with h1 | ⟨K, h1, h2, h3, h4⟩
  · exact absurd h1 hh
  · unfold F_Sheet_written
    rw [sh_rc hp, if_pos rfl, if_neg (nI_pos (by omega)), sh_0 hp]
    dsimp only [Option.bind_some]
    rw [q_n (pl_C hp).1 (pl_C hp).2 (Or.inr rfl)]
    dsimp only [Option.bind_some]
    rw [if_neg (nI_ge hj (by decide)), q_r (pl_C hp).1 (pl_C hp).2 (Or.inr rfl) hj (by decide), h1, rof_nI h2]
    dsimp only [Option.bind_some]
    rw [ar_v h3, vat_nI hw (by decide)]
    unfold cv
    rw [h1, nS_nI h2]
    rfl
/-- columns that are ready hold what the TESTS tell -/
def SHr (D : Nat → pd) (hi : Nat) (ow : Nat → Nat) (s : mst) (t P : Nat) (A : AP) : Prop := COL D hi ow s t P ∧ ∃ r, s.1 (P + 24) 2 = nI r ∧ r < 2 ^ 24 ∧ ∀ j, r.testBit j = true → j < 2 * q_ne A ∧ has s P j ∧ ∀ w, w < 2 ^ q_nt A → ∃ v, cv s P j w = nI v ∧ WD A (j / 2) w (0, 0) (j % 2) v
abbrev MS : Type := (Nat → pd) × Nat × Nat × (Nat → Nat) × mst
/-- while the columns M are written: up to WORLD w, column j; ahead of it the state was D hi z ow s -/
def FI (D : Nat → pd) (hi z : Nat) (ow : Nat → Nat) (s : mst) (t P : Nat) (A : AP) (M w j : Nat) (q : MS) : Prop := EX D hi ow q.1 q.2.1 q.2.2.2.1 ∧ Fe (KF ow hi t) s q.2.2.2.2 ∧ COL q.1 q.2.1 q.2.2.2.1 q.2.2.2.2 t P ∧ q.2.2.2.2.1 (P + 24) = s.1 (P + 24) ∧ q.2.1 + nu q.2.2.2.2 P = hi + nu s P ∧ q.2.2.1 + 1024 * nu q.2.2.2.2 P = z + 1024 * nu s P ∧ (∀ i, i < 24 → M.testBit i = true → ∀ w', (w' < w ∨ (w' = w ∧ i < j)) → has q.2.2.2.2 P i ∧ ∃ v, cv q.2.2.2.2 P i w' = nI v ∧ WD A (i / 2) w' (0, 0) (i % 2) v) ∧ ∀ i, i < 24 → ¬ M.testBit i = true → has s P i → has q.2.2.2.2 P i ∧ ∀ w', cv q.2.2.2.2 P i w' = cv s P i w'
theorem KF_block (hO : OB ow t P) (hP : P = 58 ∨ 130 ≤ P) (hPh : P + 26 < hi) : ∀ k, P ≤ k → k < P + 24 → ¬ KF ow hi t k := by
  intro k h1 h2 hk
  have := hO (k - P) (by omega)
  rw [show P + (k - P) = k by omega] at this
  unfold KF at hk
  omega
theorem c_fillw (hN : 2000 ≤ N) (hf : FX D hi) (hp : PL D hi P) (hA : WF A) (hcp : CP s P A) (hP : P = 58 ∨ 130 ≤ P) (hb : hi + 100 < 2 ^ 31) (hO : OB ow t P) (hOF : OF ow) {M : Nat} (hM : M < 2 ^ 24) (hMe : ∀ j, M.testBit j = true → j < 2 * q_ne A) (hC : COL D hi ow s t P) : ∃ D' hi' z' ow' s', F_Bench_fill_20 N (B + 5) (B + P) (nI M) N 0 (mkM h0 B D hi z s) = some (mkM h0 B D' hi' z' s') ∧ EX D hi ow D' hi' ow' ∧ Fe (KF ow hi t) s s' ∧ COL D' hi' ow' s' t P ∧ (∀ r, s.1 (P + 24) 2 = nI r → s'.1 (P + 24) 2 = nI (r ||| M)) ∧ (∀ i, i ≠ 2 → s'.1 (P + 24) i = s.1 (P + 24) i) ∧ hi' + nu s' P = hi + nu s P ∧ z' + 1024 * nu s' P = z + 1024 * nu s P ∧ (∀ i, i < 24 → M.testBit i = true → has s' P i ∧ ∀ w, w < 2 ^ q_nt A → ∃ v, cv s' P i w = nI v ∧ WD A (i / 2) w (0, 0) (i % 2) v) ∧ ∀ i, i < 24 → ¬ M.testBit i = true → has s P i → has s' P i ∧ ∀ w', cv s' P i w' = cv s P i w' := by
  have hc := hA.1
  unfold WFc at hc
  have hpw := pow10 hc.2.2.2.2.2.1
  have hPh : P + 26 < hi := (pl_A26 hp).1
  have nul := nuc_le (f := s.1 (P + 25)) 24
  have h130 := hf.1
  have hstate : ∀ (w j : Nat) (q : MS), FI D hi z ow s t P A M w j q → FX q.1 q.2.1 ∧ PL q.1 q.2.1 P ∧ CP q.2.2.2.2 P A ∧ OB q.2.2.2.1 t P ∧ OF q.2.2.2.1 ∧ q.2.1 + 50 < 2 ^ 31 := by
    intro w j q ⟨f1, f2, f3, f4, f5, _⟩
    have n1 := nuc_le (f := q.2.2.2.2.1 (P + 25)) 24
    unfold nu at f5
    refine ⟨FX_ex f1 hf, PL_ex f1 hp, CP_fe hcp f2 (KF_block hO hP hPh), fun r hr => ?_, fun k hk => ?_, by omega⟩
    · rw [(f1.2 (P + r) (by omega)).2]; exact hO r hr
    · rw [(f1.2 k (by omega)).2]; exact hOF k hk
  refine Exists.elim (lpE (F := fun f w (q : MS) => F_Bench_fill_20 N (B + 5) (B + P) (nI M) f (nI w) (mkM h0 B q.1 q.2.1 q.2.2.1 q.2.2.2.2)) (n := 2 ^ q_nt A) (I := fun w q => FI D hi z ow s t P A M w 0 q) ?_ N 0 (D, hi, z, ow, s) (Nat.zero_le _) (by omega) ⟨EX_r, fun _ _ => rfl, hC, rfl, rfl, rfl, fun i _ _ w' hw' => by omega, fun i _ _ hh => ⟨hh, fun _ => rfl⟩⟩) ?_
  · intro f w ⟨D1, hi1, z1, ow1, s1⟩ hw hI
    obtain ⟨g1, g2, g3, g4, g5, g6⟩ := hstate w 0 _ hI
    obtain ⟨i1, i2, i3, i4, i5, i6, i7, i8⟩ := hI
    dsimp only at g1 g2 g3 g4 g5 g6 i1 i2 i3 i4 i5 i6 i7 i8
    obtain ⟨s2, e2, m2, c2⟩ := c_lay (N := N) (h0 := h0) (B := B) (z := z1) (by omega) g1 g2 hA g3 hP (by omega) (show w < 1024 by omega)
    have hscr : ∀ (sa sb : mst) (K : Nat → Prop), Fe K sa sb → (∀ k, K k → 6 ≤ k ∧ k ≤ 51) → Fe (KF ow1 hi1 t) sa sb := fun sa sb K hk1 hk2 => Fe_m hk1 (fun k hk => Or.inl (hk2 k hk))
    have hnot : ∀ k, 64 * (t + 1) + 25 ≤ ow1 k → ow1 k ≤ 64 * (t + 1) + 50 → ¬ (6 ≤ k ∧ k ≤ 51) := by
      intro k h1 _ h2
      have := g5 k (by omega)
      omega
    obtain ⟨k1, k2, k3⟩ := col_keep i3 g4 (Fe_of m2) (fun k h1 h2 h3 => hnot k h1 h2 (by unfold KL at h3; omega))
    have k4 : s2.1 (P + 24) = s1.1 (P + 24) := m2.1 _ (by unfold KL; omega)
    have hnu2 : nu s2 P = nu s1 P := by unfold nu; rw [k2]
    have inner : ∃ q' : MS, FI D hi z ow s t P A M w 24 q' ∧ F_Bench_fill_42 N (F_Bench_fill_20 N (B + 5) (B + P) (nI M) f) (B + 5) (B + P) (nI M) (nI w) N (nI 0) (mkM h0 B D1 hi1 z1 s2) = F_Bench_fill_20 N (B + 5) (B + P) (nI M) f (nI (w + 1)) (mkM h0 B q'.1 q'.2.1 q'.2.2.1 q'.2.2.2.2) := by
      have hstart : FI D hi z ow s t P A M w 0 (D1, hi1, z1, ow1, s2) := by
        refine ⟨i1, Fe_ex i1 i2 (hscr _ _ _ (Fe_of m2) (fun k hk => by unfold KL at hk; omega)), k1, by dsimp only; rw [k4]; exact i4, by dsimp only; rw [hnu2]; exact i5, by dsimp only; rw [hnu2]; exact i6, fun i hi' hMi w' hw' => ?_, fun i hi' hMi hh => ?_⟩
        · obtain ⟨a1, v, a2, a3⟩ := i7 i hi' hMi w' hw'
          exact ⟨by unfold has; dsimp only; rw [k2]; exact a1, v, by dsimp only; rw [k3 i w' hi' a1]; exact a2, a3⟩
        · obtain ⟨a1, a2⟩ := i8 i hi' hMi hh
          exact ⟨by unfold has; dsimp only; rw [k2]; exact a1, fun w' => by dsimp only; rw [k3 i w' hi' a1]; exact a2 w'⟩
      refine Exists.elim (lpE (F := fun g j (q : MS) => F_Bench_fill_42 N (F_Bench_fill_20 N (B + 5) (B + P) (nI M) f) (B + 5) (B + P) (nI M) (nI w) g (nI j) (mkM h0 B q.1 q.2.1 q.2.2.1 q.2.2.2.2)) (n := 24) (I := fun j q => FI D hi z ow s t P A M w j q ∧ CW q.1 q.2.1 q.2.2.2.2 A w (0, 0) P) ?_ N 0 (D1, hi1, z1, ow1, s2) (by omega) (by omega) ⟨hstart, c2⟩) ?_
      · intro g j ⟨D3, hi3, z3, ow3, s3⟩ hj ⟨hI3, hW3⟩
        obtain ⟨p1, p2, p3, p4, p5, p6⟩ := hstate w j _ hI3
        obtain ⟨j1, j2, j3, j4, j5, j6, j7, j8⟩ := id hI3
        dsimp only at p1 p2 p3 p4 p5 p6 j1 j2 j3 j4 j5 j6 j7 j8 hW3
        have p130 := p1.1
        have hst : F_Bench_fill_42 N (F_Bench_fill_20 N (B + 5) (B + P) (nI M) f) (B + 5) (B + P) (nI M) (nI w) (g + 1) (nI j) (mkM h0 B D3 hi3 z3 s3) = if nI (M / 2 ^ j % 2) = 0 then F_Bench_fill_42 N (F_Bench_fill_20 N (B + 5) (B + P) (nI M) f) (B + 5) (B + P) (nI M) (nI w) g (nI (j + 1)) (mkM h0 B D3 hi3 z3 s3) else (F_Bench_tell N (mkM h0 B D3 hi3 z3 s3) (B + 5) (B + P) (nI (j / 2)) (nI (j % 2))).bind fun (v14, S13) => (F_Sheet_write N S13 (B + (P + 24)) (nI j) (nI w) v14).bind fun S15 => F_Bench_fill_42 N (F_Bench_fill_20 N (B + 5) (B + P) (nI M) f) (B + 5) (B + P) (nI M) (nI w) g (nI (j + 1)) S15 := by
          show B_Bench_fill_42 N (F_Bench_fill_20 N (B + 5) (B + P) (nI M) f) (F_Bench_fill_42 N (F_Bench_fill_20 N (B + 5) (B + P) (nI M) f) (B + 5) (B + P) (nI M) (nI w) g) (B + 5) (B + P) (nI M) (nI w) (nI j) (mkM h0 B D3 hi3 z3 s3) = _
          unfold B_Bench_fill_42 F_Bench_fill_85_2 F_Bench_fill_91
          rw [L_24, if_neg (nI_ge hj (by decide)), L_31, nI_shr (by omega) (by omega), L_1, nI_and1, pl_11 p2]
          dsimp only [Option.bind_some]
          rw [nI_and1, nI_shr (by omega) (by omega), show j / 2 ^ 1 = j / 2 by omega, nI_add]
          by_cases hj2 : j % 2 = 1
          · rw [hj2, if_pos rfl]
          · rw [show j % 2 = 0 by omega, if_neg (show ¬ nI 0 = nI 1 by decide), L_0]
        by_cases hbit : M.testBit j = true
        · have hje := hMe j hbit
          have hG : GW A w (0, 0) (j % 2) := ⟨hA, by omega, by omega, Or.inl rfl⟩
          obtain ⟨v, s4, e4, m4, d4⟩ := c_tell (N := N) (h0 := h0) (B := B) (z := z3) (by omega) p1 p2 hG (Or.inl rfl) hP (by omega) p3 hW3 (show j / 2 < q_ne A by omega)
          have hnot3 : ∀ k, 64 * (t + 1) + 25 ≤ ow3 k → ow3 k ≤ 64 * (t + 1) + 50 → ¬ (6 ≤ k ∧ k ≤ 51) := by
            intro k h1 _ h2
            have := p5 k (by omega)
            omega
          obtain ⟨l1, l2, l3⟩ := col_keep j3 p4 (Fe_of m4) (fun k h1 h2 h3 => hnot3 k h1 h2 (by omega))
          have l4 : s4.1 (P + 24) = s3.1 (P + 24) := m4.1 _ (by omega)
          have hnu4 : nu s4 P = nu s3 P := by unfold nu; rw [l2]
          obtain ⟨D5, hi5, z5, ow5, s5, e5, E5, C5, F5, S5, n5, y5, b5, v5, o5⟩ := c_write (N := N) (h0 := h0) (B := B) (z := z3) (s := s4) (x := nI v) p2 p4 l1 (by omega) hj (show w < 1024 by omega)
          have F35 : Fe (KF ow3 hi3 t) s3 s5 := fun k hk => (F5 k (fun h => hk (by unfold KC at h; unfold KF; omega))).trans (m4.1 k (fun h => hk (Or.inl (by omega))))
          refine ⟨(D5, hi5, z5, ow5, s5), ⟨⟨EX_t j1 E5, Fe_ex j1 j2 F35, C5, by dsimp only; rw [S5, l4]; exact j4, by dsimp only; omega, by dsimp only; omega, fun i hi' hMi w' hw' => ?_, fun i hi' hMi hh => ?_⟩, ?_⟩, hst.trans ?_⟩
          · by_cases hij : i = j ∧ w' = w
            · obtain ⟨rfl, rfl⟩ := hij
              exact ⟨b5, v, v5, d4⟩
            · obtain ⟨a1, v', a2, a3⟩ := j7 i hi' hMi w' (by omega)
              have a1' : has s4 P i := by unfold has; rw [l2]; exact a1
              obtain ⟨b1, b2⟩ := o5 i hi' a1'
              exact ⟨b1, v', by dsimp only; rw [b2 w' hij, l3 i w' hi' a1]; exact a2, a3⟩
          · obtain ⟨a1, a2⟩ := j8 i hi' hMi hh
            have a1' : has s4 P i := by unfold has; rw [l2]; exact a1
            obtain ⟨b1, b2⟩ := o5 i hi' a1'
            refine ⟨b1, fun w' => ?_⟩
            dsimp only
            rw [b2 w' (fun e => hMi (by rw [e.1]; exact hbit)), l3 i w' hi' a1]
            exact a2 w'
          · dsimp only
            refine CW_ex E5 (CW_fe (CW_fm hW3 m4 hP (fun q hq hh => by omega)) F5 hP (fun q hq hh => ?_))
            unfold KC at hh
            rcases hq with hq | hq | hq
            · have := p5 q (by omega); omega
            · have := p5 q (by omega); omega
            · have := p4 (q - P) (by omega)
              rw [show P + (q - P) = q by omega] at this
              have := (pl_A26 p2).1
              omega
          · rw [show M / 2 ^ j % 2 = 1 from so_tb.mpr hbit, if_neg (by decide), e4]
            dsimp only [Option.bind_some]
            rw [e5]
            rfl
        · refine ⟨(D3, hi3, z3, ow3, s3), ⟨⟨j1, j2, j3, j4, j5, j6, fun i hi' hMi w' hw' => ?_, j8⟩, hW3⟩, hst.trans ?_⟩
          · by_cases hij : i = j
            · rw [hij] at hMi; exact absurd hMi hbit
            · exact j7 i hi' hMi w' (by omega)
          · rw [(bit01 M j).resolve_right (fun e => hbit (so_tb.mp e)), if_pos nI_0]
      · intro g ⟨q', ⟨hq1, _⟩, ee⟩
        refine ⟨q', hq1, Eq.trans ee ?_⟩
        show B_Bench_fill_42 N (F_Bench_fill_20 N (B + 5) (B + P) (nI M) f) (F_Bench_fill_42 N (F_Bench_fill_20 N (B + 5) (B + P) (nI M) f) (B + 5) (B + P) (nI M) (nI w) g) (B + 5) (B + P) (nI M) (nI w) (nI 24) _ = _
        unfold B_Bench_fill_42 F_Bench_fill_97
        rw [if_pos (by decide), nI_1]
    obtain ⟨q', hq1, hq2⟩ := inner
    refine ⟨q', ?_, ?_⟩
    · obtain ⟨j1, j2, j3, j4, j5, j6, j7, j8⟩ := hq1
      exact ⟨j1, j2, j3, j4, j5, j6, fun i hi' hMi w' hw' => j7 i hi' hMi w' (by omega), j8⟩
    · show B_Bench_fill_20 N (F_Bench_fill_20 N (B + 5) (B + P) (nI M) f) (B + 5) (B + P) (nI M) (nI w) (mkM h0 B D1 hi1 z1 s1) = _
      unfold B_Bench_fill_20
      rw [c_worlds g2 g3 hA]
      dsimp only [Option.bind_some]
      rw [if_neg (nI_ge hw (by omega)), rdm_5_0 g1]
      dsimp only [Option.bind_some]
      rw [e2]
      dsimp only [Option.bind_some]
      rw [L_0]
      exact hq2
  · intro f ⟨⟨D1, hi1, z1, ow1, s1⟩, hI, ee⟩
    obtain ⟨g1, g2, g3, g4, g5, g6⟩ := hstate _ 0 _ hI
    obtain ⟨i1, i2, i3, i4, i5, i6, i7, i8⟩ := hI
    dsimp only at g1 g2 g3 g4 g5 g6 i1 i2 i3 i4 i5 i6 i7 i8 ee
    have o24 := g4 24 (by omega)
    have hke : Fe (fun k => k = P + 24) s1 (wr1 s1 (P + 24) 2 (s1.1 (P + 24) 2 ||| nI M)) := fun k hk => wr1_ne hk
    obtain ⟨k1, k2, k3⟩ := col_keep i3 g4 hke (fun k h1 h2 h3 => by rw [h3, o24] at h1; omega)
    have hnu2 : nu (wr1 s1 (P + 24) 2 (s1.1 (P + 24) 2 ||| nI M)) P = nu s1 P := by unfold nu; rw [k2]
    refine ⟨D1, hi1, z1, ow1, wr1 s1 (P + 24) 2 (s1.1 (P + 24) 2 ||| nI M), Eq.trans ee ?_, i1, ?_, k1, fun r hr => ?_, fun i hi' => ?_, by omega, by omega, fun i hi' hMi => ?_, fun i hi' hMi hh => ?_⟩
    · show B_Bench_fill_20 N (F_Bench_fill_20 N (B + 5) (B + P) (nI M) f) (B + 5) (B + P) (nI M) (nI (2 ^ q_nt A)) (mkM h0 B D1 hi1 z1 s1) = _
      unfold B_Bench_fill_20 F_Bench_fill_103
      rw [c_worlds g2 g3 hA]
      dsimp only [Option.bind_some]
      rw [if_pos (nI_le (Nat.le_refl _) (by omega)), pl_11 g2]
      dsimp only [Option.bind_some]
      rw [sh_2 g2]
      dsimp only [Option.bind_some]
      rw [sw_2 g2]
      rfl
    · refine Fe_ex i1 i2 (Fe_m hke (fun k hk => ?_))
      rw [hk]
      unfold KF
      omega
    · rw [wr1_at, if_pos rfl, i4, hr, nI_or]
    · rw [wr1_at, if_neg hi', i4]
    · have hne : 0 < 2 ^ q_nt A := Nat.two_pow_pos _
      refine ⟨?_, fun w' hw' => ?_⟩
      · obtain ⟨a1, _⟩ := i7 i hi' hMi 0 (by omega)
        unfold has
        rw [k2]
        exact a1
      · obtain ⟨a1, v, a2, a3⟩ := i7 i hi' hMi w' (by omega)
        exact ⟨v, by rw [k3 i w' hi' a1]; exact a2, a3⟩
    · obtain ⟨a1, a2⟩ := i8 i hi' hMi hh
      refine ⟨by unfold has; rw [k2]; exact a1, fun w' => ?_⟩
      rw [k3 i w' hi' a1]
      exact a2 w'
end FIL
