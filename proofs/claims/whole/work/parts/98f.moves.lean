/-! ===== MOVES: the steps as numbers ===== -/
noncomputable def q_fp (P : Nat → Prop) : Nat → Nat
  | 0 => 0
  | n + 1 => if q_fp P n ≠ 0 then q_fp P n else @ite _ (P n) (Classical.propDecidable _) (n + 1) 0
theorem q_fp_spec {P : Nat → Prop} : ∀ n, (q_fp P n = 0 ∧ ∀ i, i < n → ¬ P i) ∨ ∃ i, i < n ∧ q_fp P n = i + 1 ∧ P i ∧ ∀ j, j < i → ¬ P j := by
  intro n
  induction n with
  | zero => exact Or.inl ⟨rfl, fun i h => by omega⟩
  | succ n ih =>
    unfold q_fp
    rcases ih with ⟨h1, h2⟩ | ⟨i, h1, h2, h3, h4⟩
    · rw [if_neg (fun h => h h1)]
      by_cases c : P n
      · rw [if_pos c]
        exact Or.inr ⟨n, by omega, rfl, c, h2⟩
      · rw [if_neg c]
        refine Or.inl ⟨rfl, fun i hi => ?_⟩
        by_cases e : i = n
        · rw [e]; exact c
        · exact h2 i (by omega)
    · rw [if_pos (by omega)]
      exact Or.inr ⟨i, by omega, h2, h3, h4⟩
theorem q_fp_eq {P : Nat → Prop} {n i : Nat} (hi : i < n) (h : P i) (hl : ∀ j, j < i → ¬ P j) : q_fp P n = i + 1 := by
  rcases q_fp_spec (P := P) n with ⟨_, h2⟩ | ⟨k, h1, h2, h3, h4⟩
  · exact absurd h (h2 i hi)
  · have : k = i := by
      by_cases c : k < i
      · exact absurd h3 (hl k c)
      · by_cases c2 : i < k
        · exact absurd h (h4 i c2)
        · omega
    rw [h2, this]
theorem q_fp_z {P : Nat → Prop} {n : Nat} (h : ∀ i, i < n → ¬ P i) : q_fp P n = 0 := by
  rcases q_fp_spec (P := P) n with ⟨h1, _⟩ | ⟨k, h1, h2, h3, h4⟩
  · exact h1
  · exact absurd h3 (h k h1)
noncomputable def q_cp (P : Nat → Prop) : Nat → Nat
  | 0 => 0
  | n + 1 => q_cp P n + @ite _ (P n) (Classical.propDecidable _) 1 0
theorem q_cp_le {P : Nat → Prop} : ∀ n, q_cp P n ≤ n := by
  intro n
  induction n with
  | zero => exact Nat.le_refl _
  | succ n ih => unfold q_cp; split <;> omega
theorem q_cp_m {P Q : Nat → Prop} (h : ∀ i, P i → Q i) : ∀ n, q_cp P n ≤ q_cp Q n := by
  intro n
  induction n with
  | zero => exact Nat.le_refl _
  | succ n ih =>
    unfold q_cp
    by_cases c : P n
    · rw [if_pos c, if_pos (h n c)]; omega
    · rw [if_neg c]; omega
theorem q_cp_d {P Q : Nat → Prop} {k : Nat} (h : ∀ i, P i → Q i) (hk : Q k) (hn : ¬ P k) : ∀ n, k < n → q_cp P n + 1 ≤ q_cp Q n := by
  intro n
  induction n with
  | zero => intro h; omega
  | succ n ih =>
    intro hkn
    have hm := q_cp_m h n
    unfold q_cp
    by_cases c : k = n
    · rw [← c, if_neg hn, if_pos hk, c]; omega
    · have := ih (by omega)
      by_cases d : P n
      · rw [if_pos d, if_pos (h n d)]; omega
      · rw [if_neg d]; omega
theorem q_cp_p {P : Nat → Prop} {k : Nat} : ∀ n, k < n → P k → 1 ≤ q_cp P n := by
  intro n
  induction n with
  | zero => intro h; omega
  | succ n ih =>
    intro hk hp
    unfold q_cp
    by_cases c : k = n
    · rw [← c, if_pos hp]; omega
    · have := ih (by omega) hp
      omega
/-- where the HOUSES hang, who gave way, how many MOVES, which -/
abbrev MV : Type := (Nat → Nat) × (Nat → Nat) × Nat × (Nat → Nat)
def ast (W a : Nat → Nat) (h : Nat) : Prop := a h ≠ 0 ∧ W h ≠ 0 ∧ a h ≠ W h
def fre (U : Nat → Prop) (a : Nat → Nat) (p : Nat) : Prop := U p ∧ ∀ h, h < 10 → a h ≠ p + 1
def hmP (W : Nat → Nat) (U : Nat → Prop) (a : Nat → Nat) (h : Nat) : Prop := ast W a h ∧ fre U a (W h - 1)
def asP (W a g : Nat → Nat) (h : Nat) : Prop := ast W a h ∧ g h = 0 ∧ ∃ h', h' < 10 ∧ a h' = W h ∧ ast W a h'
def mgo (m : MV) (h p : Nat) : MV := (updN m.1 h (p + 1), m.2.1, m.2.2.1 + 1, updN m.2.2.2 m.2.2.1 (8 * h + p))
def mgone (m : MV) (h : Nat) : MV := (m.1, updN m.2.1 h 1, m.2.2)
noncomputable def q_h (W : Nat → Nat) (U : Nat → Prop) (m : MV) : Nat := q_fp (hmP W U m.1) 10
noncomputable def q_fr6 (U : Nat → Prop) (m : MV) : Nat := q_fp (fre U m.1) 6
noncomputable def q_sd (W : Nat → Nat) (m : MV) : Nat := q_fp (asP W m.1 m.2.1) 10
def mstk (W : Nat → Nat) (U : Nat → Prop) (m : MV) : Prop := q_h W U m = 0 ∧ (q_fr6 U m = 0 ∨ q_sd W m = 0)
noncomputable def mstp (W : Nat → Nat) (U : Nat → Prop) (m : MV) : MV := if q_h W U m ≠ 0 then mgo m (q_h W U m - 1) (W (q_h W U m - 1) - 1) else if q_fr6 U m ≠ 0 ∧ q_sd W m ≠ 0 then mgo (mgone m (q_sd W m - 1)) (q_sd W m - 1) (q_fr6 U m - 1) else m
noncomputable def mrun (W : Nat → Nat) (U : Nat → Prop) (m : MV) : Nat → MV
  | 0 => m
  | k + 1 => mstp W U (mrun W U m k)
theorem mstp_k {W : Nat → Nat} {U : Nat → Prop} {m : MV} (h : mstk W U m) : mstp W U m = m := by
  unfold mstp
  rw [if_neg (fun z => z h.1), if_neg (fun z => by rcases h.2 with h2 | h2; exact z.1 h2; exact z.2 h2)]
noncomputable def mph (W : Nat → Nat) (m : MV) : Nat := q_cp (ast W m.1) 10 + q_cp (fun h => m.2.1 h = 0) 10
theorem mph_le {W : Nat → Nat} {m : MV} : mph W m ≤ 20 := by
  have h1 := q_cp_le (P := ast W m.1) 10
  have h2 := q_cp_le (P := fun h => m.2.1 h = 0) 10
  unfold mph
  omega
theorem mph_s {W : Nat → Nat} {U : Nat → Prop} {m : MV} (h : ¬ mstk W U m) : mph W (mstp W U m) + 1 ≤ mph W m ∧ (mstp W U m).2.2.1 = m.2.2.1 + 1 := by
  unfold mstp
  by_cases c : q_h W U m ≠ 0
  · rw [if_pos c]
    rcases q_fp_spec (P := hmP W U m.1) 10 with ⟨h1, _⟩ | ⟨i, h1, h2, h3, h4⟩
    · exact absurd h1 c
    · have e : q_h W U m = i + 1 := h2
      rw [e, Nat.add_sub_cancel]
      refine ⟨?_, rfl⟩
      have hw : W i - 1 + 1 = W i := by have := h3.1.2.1; omega
      have a1 : q_cp (ast W (updN m.1 i (W i))) 10 + 1 ≤ q_cp (ast W m.1) 10 := by
        refine q_cp_d (fun j hj => ?_) h3.1 (fun hj => ?_) 10 h1
        · by_cases d : j = i
          · rw [d]; exact h3.1
          · unfold ast at hj ⊢
            rw [updN_n d] at hj
            exact hj
        · unfold ast at hj
          rw [updN_s] at hj
          exact hj.2.2 rfl
      unfold mph mgo
      dsimp only
      rw [hw]
      omega
  · rw [if_neg c]
    have c' : q_h W U m = 0 := by
      apply Classical.byContradiction
      exact c
    by_cases d : q_fr6 U m ≠ 0 ∧ q_sd W m ≠ 0
    · rw [if_pos d]
      rcases q_fp_spec (P := asP W m.1 m.2.1) 10 with ⟨h1, _⟩ | ⟨i, h1, h2, h3, h4⟩
      · exact absurd h1 d.2
      · have e : q_sd W m = i + 1 := h2
        rw [e, Nat.add_sub_cancel]
        refine ⟨?_, rfl⟩
        have a1 : q_cp (ast W (updN m.1 i (q_fr6 U m - 1 + 1))) 10 ≤ q_cp (ast W m.1) 10 := by
          refine q_cp_m (fun j hj => ?_) 10
          by_cases d : j = i
          · rw [d]; exact h3.1
          · unfold ast at hj ⊢
            rw [updN_n d] at hj
            exact hj
        have a2 : q_cp (fun h => updN m.2.1 i 1 h = 0) 10 + 1 ≤ q_cp (fun h => m.2.1 h = 0) 10 := by
          refine q_cp_d (k := i) (fun j hj => ?_) h3.2.1 (fun hj => ?_) 10 h1
          · by_cases d : j = i
            · rw [d, updN_s] at hj; omega
            · rw [updN_n d] at hj; exact hj
          · rw [updN_s] at hj; omega
        unfold mph mgo mgone
        dsimp only
        omega
    · exact absurd ⟨c', by
        by_cases z : q_fr6 U m = 0
        · exact Or.inl z
        · by_cases z2 : q_sd W m = 0
          · exact Or.inr z2
          · exact absurd ⟨z, z2⟩ d⟩ h
/-- no more than 20 MOVES -/
theorem mrun_key {W : Nat → Nat} {U : Nat → Prop} {m : MV} {K : Nat} (hK : mph W m ≤ K) : ∀ k, mstk W U (mrun W U m k) ∨ mph W (mrun W U m k) + k ≤ K := by
  intro k
  induction k with
  | zero =>
    right
    have e : mrun W U m 0 = m := rfl
    rw [e]
    omega
  | succ k ih =>
    have e : mrun W U m (k + 1) = mstp W U (mrun W U m k) := rfl
    rw [e]
    by_cases c : mstk W U (mrun W U m k)
    · left
      rw [mstp_k c]; exact c
    · right
      have := (mph_s c).1
      rcases ih with ih | ih
      · exact absurd ih c
      · omega
theorem mrun_K {W : Nat → Nat} {U : Nat → Prop} {m : MV} {K : Nat} (hK : mph W m ≤ K) : mstk W U (mrun W U m K) := by
  rcases mrun_key (U := U) hK K with h | h
  · exact h
  · refine Classical.byContradiction fun c => ?_
    have := (mph_s c).1
    omega
theorem mrun_20 {W : Nat → Nat} {U : Nat → Prop} {m : MV} : mstk W U (mrun W U m 20) := mrun_K mph_le
theorem mrun_s {W : Nat → Nat} {U : Nat → Prop} {m : MV} {k : Nat} (h : mstk W U (mrun W U m k)) : ∀ j, mrun W U m (k + j) = mrun W U m k := by
  intro j
  induction j with
  | zero => rfl
  | succ j ih =>
    show mstp W U (mrun W U m (k + j)) = _
    rw [ih, mstp_k h]
theorem mrun_n {W : Nat → Nat} {U : Nat → Prop} {m : MV} (h0 : m.2.2.1 = 0) : ∀ k, (mrun W U m k).2.2.1 ≤ k := by
  intro k
  induction k with
  | zero => exact Nat.le_of_eq h0
  | succ k ih =>
    show (mstp W U (mrun W U m k)).2.2.1 ≤ _
    by_cases c : mstk W U (mrun W U m k)
    · rw [mstp_k c]; omega
    · rw [(mph_s c).2]; omega
