/-! ===== the reference's lay ===== -/
def s8 (i : Nat) : Nat := 8 * (i / 6) + i % 6
def r6 (v : Nat) : Nat := if v = 0 then 0 else 6 * ((v - 1) / 8) + (v - 1) % 8 + 1
theorem r6_s (y : Nat) : r6 (y + 1) = 6 * (y / 8) + y % 8 + 1 := by
  unfold r6
  rw [if_neg (by omega), Nat.add_sub_cancel]
theorem r6_0 : r6 0 = 0 := rfl
/-- what joints and houses may be -/
def LV (A : AP) (L : LY) : Prop := ∀ s, (L.1 s = 0 ∨ q_st A (L.1 s - 1)) ∧ L.2 s ≤ 10
/-- the reference's rows of joints and houses are L -/
def RL (L : LY) (s : mst) : Prop := ∀ i, i < 42 → s.1 106 i = cd (r6 (L.1 (s8 i))) ∧ s.1 107 i = cd (L.2 (s8 i))
theorem LV_op {A : AP} (hA : WF A) {k : Nat} (hk : k < q_nq A + q_ns A) {L : LY} (h : LV A L) : LV A (q_op A k L) := by
  obtain ⟨h1, h2, h3, h4⟩ := hA.2.2.2.1 k hk
  intro s
  obtain ⟨a, b⟩ := h s
  unfold q_op
  by_cases h0 : q_ok A k = 0
  · rw [if_pos h0]
    refine ⟨?_, b⟩
    show q_jn L.1 (q_os A k) (q_ow A k) s = 0 ∨ q_st A (q_jn L.1 (q_os A k) (q_ow A k) s - 1)
    unfold q_jn
    split
    · right
      rw [Nat.add_sub_cancel]
      exact (h3 h0).1
    · split
      · exact Or.inl rfl
      · exact a
  · rw [if_neg h0]
    refine ⟨a, ?_⟩
    show q_jn L.2 (q_os A k) (q_ow A k) s ≤ 10
    have := h4 (by omega)
    unfold q_jn
    split
    · omega
    · split
      · omega
      · exact b
theorem LV_ly {A : AP} (hA : WF A) : ∀ k, k ≤ q_nq A + q_ns A → LV A (q_ly A k) := by
  intro k
  induction k with
  | zero => intro _ s; exact ⟨Or.inl rfl, by show 0 ≤ 10; omega⟩
  | succ k ih => intro h; exact LV_op hA (by omega) (ih (by omega))
theorem LV_lw {A : AP} (hA : WF A) (w : Nat) : ∀ i, i ≤ q_ns A → LV A (q_lw A w i) := by
  intro i
  induction i with
  | zero => intro _; exact LV_ly hA _ (by omega)
  | succ i ih =>
    intro h
    unfold q_lw
    by_cases hu : q_und A w i
    · rw [if_pos hu]; exact ih (by omega)
    · rw [if_neg hu]; exact LV_op hA (by omega) (ih (by omega))
section LAY
variable {N t w wet : Nat} {s : mst} {A : AP} {v : Int32}
theorem r_isSo_t {k : Nat} (hw : s.1 85 30 = nI w) (h1 : w < 2 ^ 31) (hk : k < 31) (h : so w k) : G_M_isSo N s (nI k) = some (1, s) := by
  unfold G_M_isSo G_M_isSo_17
  rw [hw, L_31, nI_shr h1 (by omega), L_1, nI_and1, if_pos (by rw [h])]
  rfl
theorem r_isSo_f {k : Nat} (hw : s.1 85 30 = nI w) (h1 : w < 2 ^ 31) (hk : k < 31) (h : ¬ so w k) : G_M_isSo N s (nI k) = some (0, s) := by
  unfold G_M_isSo G_M_isSo_17
  rw [hw, L_31, nI_shr h1 (by omega), L_1, nI_and1, if_neg (by rcases bit01 w k with e | e; (rw [e]; decide); exact absurd e h)]
  rfl
theorem r_unhang (hN : 50 ≤ N) : ∃ s', G_M_unhang N s v = some s' ∧ Md [107] [] s s' ∧ ∀ i, i < 42 → s'.1 107 i = if s.1 107 i = v then cd 0 else s.1 107 i := by
  unfold G_M_unhang
  refine Exists.elim (lpE (F := fun f i s => G_M_unhang_2 N v f (nI i) s) (n := 42) (I := fun i s' => Md [107] [] s s' ∧ ∀ j, s'.1 107 j = if j < i ∧ s.1 107 j = v then cd 0 else s.1 107 j) ?_ N 0 s (by omega) (by omega) ⟨Md_r, fun j => by rw [if_neg (by omega)]⟩) ?_
  rotate_left
  · intro f hlp
    obtain ⟨s', ⟨hm, hI⟩, e⟩ := hlp
    refine ⟨s', ?_, hm, fun i hi => ?_⟩
    · refine Eq.trans e ?_
      simp (disch := omega) only [G_M_unhang_2, GB_M_unhang_2, G_M_unhang_31, L_0, L_1, L_2, L_3, L_4, L_5, L_6, L_7, L_8, L_9, L_10, L_11, L_12, L_15, L_16, L_20, L_24, L_26, L_31, L_32, L_42, L_48, L_56, L_57, L_59, L_60, L_97, L_98, L_99, L_104, L_106, L_255, L_300, L_462, L_616, neg1, nI_add, nI_mul, pk_div, pk_sub, nI_or, nI_shr, nI_shl, nI_and1, nI_leI, nI_ltI, nI_eq, cd_eq, cd_nI, nI_cd, rdA_nI, stA_nI, wrI_1, Option.bind_some, Option.map_some, Option.bind_none, if_true, if_false]
      rw [if_pos (by omega)]
    · rw [hI i]
      simp only [hi, true_and]
  · intro f i s' hi ⟨hm, hI⟩
    have e0 : s'.1 107 i = s.1 107 i := by rw [hI i, if_neg (by omega)]
    simp (disch := omega) only [G_M_unhang_2, GB_M_unhang_2, G_M_unhang_25, L_0, L_1, L_2, L_3, L_4, L_5, L_6, L_7, L_8, L_9, L_10, L_11, L_12, L_15, L_16, L_20, L_24, L_26, L_31, L_32, L_42, L_48, L_56, L_57, L_59, L_60, L_97, L_98, L_99, L_104, L_106, L_255, L_300, L_462, L_616, neg1, nI_add, nI_mul, pk_div, pk_sub, nI_or, nI_shr, nI_shl, nI_and1, nI_leI, nI_ltI, nI_eq, cd_eq, cd_nI, nI_cd, rdA_nI, stA_nI, wrI_1, Option.bind_some, Option.map_some, Option.bind_none, if_true, if_false, e0]
    rw [if_neg (by omega)]
    by_cases h : s.1 107 i = v
    · rw [if_pos h]
      refine ⟨_, ⟨Md_t hm (Md_w (by decide) (by decide)), fun j => ?_⟩, rfl⟩
      rw [wr1_at, hI j]
      by_cases hj : j = i
      · subst hj
        rw [if_pos rfl, if_pos ⟨by omega, h⟩]
      · rw [if_neg hj]
        by_cases hj2 : j < i
        · simp only [hj2, true_and, show j < i + 1 by omega]
        · rw [if_neg (by omega), if_neg (by omega)]
    · rw [if_neg h]
      refine ⟨s', ⟨hm, fun j => ?_⟩, rfl⟩
      rw [hI j]
      by_cases hj : j = i
      · subst hj
        rw [if_neg (by omega), if_neg (fun z => h z.2)]
      · by_cases hj2 : j < i
        · simp only [hj2, true_and, show j < i + 1 by omega]
        · rw [if_neg (by omega), if_neg (by omega)]
theorem r_unjoin (hN : 50 ≤ N) : ∃ s', G_M_unjoin N s v = some s' ∧ Md [106] [] s s' ∧ ∀ i, i < 42 → s'.1 106 i = if s.1 106 i = v then cd 0 else s.1 106 i := by
  unfold G_M_unjoin
  refine Exists.elim (lpE (F := fun f i s => G_M_unjoin_2 N v f (nI i) s) (n := 42) (I := fun i s' => Md [106] [] s s' ∧ ∀ j, s'.1 106 j = if j < i ∧ s.1 106 j = v then cd 0 else s.1 106 j) ?_ N 0 s (by omega) (by omega) ⟨Md_r, fun j => by rw [if_neg (by omega)]⟩) ?_
  rotate_left
  · intro f hlp
    obtain ⟨s', ⟨hm, hI⟩, e⟩ := hlp
    refine ⟨s', ?_, hm, fun i hi => ?_⟩
    · refine Eq.trans e ?_
      simp (disch := omega) only [G_M_unjoin_2, GB_M_unjoin_2, G_M_unjoin_31, L_0, L_1, L_2, L_3, L_4, L_5, L_6, L_7, L_8, L_9, L_10, L_11, L_12, L_15, L_16, L_20, L_24, L_26, L_31, L_32, L_42, L_48, L_56, L_57, L_59, L_60, L_97, L_98, L_99, L_104, L_106, L_255, L_300, L_462, L_616, neg1, nI_add, nI_mul, pk_div, pk_sub, nI_or, nI_shr, nI_shl, nI_and1, nI_leI, nI_ltI, nI_eq, cd_eq, cd_nI, nI_cd, rdA_nI, stA_nI, wrI_1, Option.bind_some, Option.map_some, Option.bind_none, if_true, if_false]
      rw [if_pos (by omega)]
    · rw [hI i]
      simp only [hi, true_and]
  · intro f i s' hi ⟨hm, hI⟩
    have e0 : s'.1 106 i = s.1 106 i := by rw [hI i, if_neg (by omega)]
    simp (disch := omega) only [G_M_unjoin_2, GB_M_unjoin_2, G_M_unjoin_25, L_0, L_1, L_2, L_3, L_4, L_5, L_6, L_7, L_8, L_9, L_10, L_11, L_12, L_15, L_16, L_20, L_24, L_26, L_31, L_32, L_42, L_48, L_56, L_57, L_59, L_60, L_97, L_98, L_99, L_104, L_106, L_255, L_300, L_462, L_616, neg1, nI_add, nI_mul, pk_div, pk_sub, nI_or, nI_shr, nI_shl, nI_and1, nI_leI, nI_ltI, nI_eq, cd_eq, cd_nI, nI_cd, rdA_nI, stA_nI, wrI_1, Option.bind_some, Option.map_some, Option.bind_none, if_true, if_false, e0]
    rw [if_neg (by omega)]
    by_cases h : s.1 106 i = v
    · rw [if_pos h]
      refine ⟨_, ⟨Md_t hm (Md_w (by decide) (by decide)), fun j => ?_⟩, rfl⟩
      rw [wr1_at, hI j]
      by_cases hj : j = i
      · subst hj
        rw [if_pos rfl, if_pos ⟨by omega, h⟩]
      · rw [if_neg hj]
        by_cases hj2 : j < i
        · simp only [hj2, true_and, show j < i + 1 by omega]
        · rw [if_neg (by omega), if_neg (by omega)]
    · rw [if_neg h]
      refine ⟨s', ⟨hm, fun j => ?_⟩, rfl⟩
      rw [hI j]
      by_cases hj : j = i
      · subst hj
        rw [if_neg (by omega), if_neg (fun z => h z.2)]
      · by_cases hj2 : j < i
        · simp only [hj2, true_and, show j < i + 1 by omega]
        · rw [if_neg (by omega), if_neg (by omega)]
/-- sites of the reference's rows -/
theorem s8_st {i : Nat} (hi : i < 42) : s8 i / 8 = i / 6 ∧ s8 i % 8 = i % 6 := by unfold s8; omega
theorem s8_6 {y : Nat} (h : y % 8 < 6) : s8 (6 * (y / 8) + y % 8) = y := by unfold s8; omega
theorem s8_inj {i j : Nat} (hi : i < 42) (hj : j < 42) (h : s8 i = s8 j) : i = j := by unfold s8 at h; omega
theorem r6_le {A : AP} (hA : WF A) {v : Nat} (h : v = 0 ∨ q_st A (v - 1)) : r6 v ≤ 42 := by
  rcases h with rfl | h
  · rw [r6_0]; omega
  · have := q_st_lt hA h
    unfold r6
    split <;> omega
theorem r6_eq {A : AP} (hA : WF A) {v y : Nat} (h : v = 0 ∨ q_st A (v - 1)) (hy : q_st A y) : r6 v = 6 * (y / 8) + y % 8 + 1 ↔ v = y + 1 := by
  have h1 := q_st_lt hA hy
  rcases h with rfl | h
  · rw [r6_0]; omega
  · have h2 := q_st_lt hA h
    unfold r6
    split
    · omega
    · omega
/-- one joint or house more -/
theorem r_op (hN : 50 ≤ N) (ht : t < 6) (hA : WF A) {k : Nat} (hk : k < q_nq A + q_ns A) {L : LY} (hV : LV A L) (hR : RPo s t A) (hL : RL L s) (rc : Int32 → mst → Option mst) (x4 : Int32) : ∃ s', G_M_lay_115 N rc (nI t) x4 (nI k) s = rc (nI (k + 1)) s' ∧ Md [106, 107] [] s s' ∧ RL (q_op A k L) s' := by
  obtain ⟨h1, h2, h3, h4⟩ := hA.2.2.2.1 k hk
  obtain ⟨e1, e2, e3, e4, e5⟩ := hR.2.2 k hk
  have hs := q_st_lt hA h2
  have hc := hA.1
  unfold WFc at hc
  by_cases h0 : q_ok A k = 0
  · have hy := q_st_lt hA (h3 h0).1
    have e6 := e5 h0
    rw [if_pos h0] at e4
    obtain ⟨s1, f1, m1, g1⟩ := r_unjoin (N := N) (s := s) (v := nI (6 * (q_ow A k / 8) + q_ow A k % 8)) hN
    have hk94 : s.1 94 (60 * t + k) = nI 0 := by rw [e1, h0]
    simp (disch := omega) only [G_M_lay_115, G_M_lay_218, L_0, L_1, L_2, L_3, L_4, L_5, L_6, L_7, L_8, L_9, L_10, L_11, L_12, L_15, L_16, L_20, L_24, L_26, L_31, L_32, L_42, L_48, L_56, L_57, L_59, L_60, L_97, L_98, L_99, L_104, L_106, L_255, L_300, L_462, L_616, neg1, nI_add, nI_mul, pk_div, pk_sub, nI_or, nI_shr, nI_shl, nI_and1, nI_leI, nI_ltI, nI_eq, cd_eq, cd_nI, nI_cd, rdA_nI, stA_nI, wrI_1, Option.bind_some, Option.map_some, Option.bind_none, if_true, if_false, hk94, e2, e3, e4, e6, f1]
    rw [if_neg (by omega)]
    refine ⟨_, rfl, Md_t (Md_m m1 (by decide) (by decide)) (Md_w (by decide) (by decide)), fun i hi => ?_⟩
    unfold q_op
    rw [if_pos h0]
    obtain ⟨a, b⟩ := hL i hi
    refine ⟨?_, ?_⟩
    · rw [wr1_at, g1 i hi, a]
      show _ = cd (r6 (q_jn L.1 (q_os A k) (q_ow A k) (s8 i)))
      unfold q_jn
      have hv := (hV (s8 i)).1
      have hle := r6_le hA hv
      by_cases hi2 : i = 6 * (q_os A k / 8) + q_os A k % 8
      · rw [if_pos hi2, hi2, s8_6 hs.2.1, if_pos rfl, r6_s, cd_s]
      · rw [if_neg hi2, if_neg (show ¬ s8 i = q_os A k from fun z => hi2 (by rw [← z]; unfold s8; omega))]
        have hq := r6_eq hA hv (h3 h0).1
        by_cases h5 : L.1 (s8 i) = q_ow A k + 1
        · rw [if_pos h5, if_pos ((cd_nI (by omega) (by omega)).mpr (hq.mpr h5)), r6_0]
        · rw [if_neg h5, if_neg (fun z => h5 (hq.mp ((cd_nI (by omega) (by omega)).mp z)))]
    · rw [wr1_ne (by decide), m1.1 107 (by decide) (by decide)]
      exact b
  · have h1' : q_ok A k = 1 := by omega
    have hh := h4 h1'
    rw [if_neg h0] at e4
    obtain ⟨s1, f1, m1, g1⟩ := r_unhang (N := N) (s := s) (v := nI (q_ow A k)) hN
    have e7 : s1.1 97 (60 * t + k) = nI (q_ow A k) := by rw [m1.1 97 (by decide) (by decide)]; exact e4
    have hk94 : s.1 94 (60 * t + k) = nI 1 := by rw [e1, h1']
    simp (disch := omega) only [G_M_lay_115, G_M_lay_218, L_0, L_1, L_2, L_3, L_4, L_5, L_6, L_7, L_8, L_9, L_10, L_11, L_12, L_15, L_16, L_20, L_24, L_26, L_31, L_32, L_42, L_48, L_56, L_57, L_59, L_60, L_97, L_98, L_99, L_104, L_106, L_255, L_300, L_462, L_616, neg1, nI_add, nI_mul, pk_div, pk_sub, nI_or, nI_shr, nI_shl, nI_and1, nI_leI, nI_ltI, nI_eq, cd_eq, cd_nI, nI_cd, rdA_nI, stA_nI, wrI_1, Option.bind_some, Option.map_some, Option.bind_none, if_true, if_false, hk94, e2, e3, e4, e7, f1]
    refine ⟨_, rfl, Md_t (Md_m m1 (by decide) (by decide)) (Md_w (by decide) (by decide)), fun i hi => ?_⟩
    unfold q_op
    rw [if_neg h0]
    obtain ⟨a, b⟩ := hL i hi
    refine ⟨?_, ?_⟩
    · rw [wr1_ne (by decide), m1.1 106 (by decide) (by decide)]
      exact a
    · rw [wr1_at, g1 i hi, b]
      show _ = cd (q_jn L.2 (q_os A k) (q_ow A k) (s8 i))
      unfold q_jn
      have hv := (hV (s8 i)).2
      by_cases hi2 : i = 6 * (q_os A k / 8) + q_os A k % 8
      · rw [if_pos hi2, hi2, s8_6 hs.2.1, if_pos rfl, cd_s]
      · rw [if_neg hi2, if_neg (show ¬ s8 i = q_os A k from fun z => hi2 (by rw [← z]; unfold s8; omega))]
        by_cases h5 : L.2 (s8 i) = q_ow A k + 1
        · rw [if_pos h5, if_pos ((cd_nI (by omega) (by omega)).mpr h5)]
        · rw [if_neg h5, if_neg (fun z => h5 ((cd_nI (by omega) (by omega)).mp z))]
theorem r_isUndone {i : Nat} (hN : 50 ≤ N) (ht : t < 6) (hA : WF A) (hR : RPt s t A) (hn : s.1 85 29 = nI t) (hw : s.1 85 30 = nI w) (h1 : w < 2 ^ 31) (hi : i < 100) : ∃ r, ((q_und A w i ∧ r = ((1 : Int32), s)) ∨ (¬ q_und A w i ∧ r = ((0 : Int32), s))) ∧ G_M_isUndone N s (nI i) = some r := by
  have hc := hA.1
  unfold WFc at hc
  unfold G_M_isUndone
  refine lpQ (F := fun f k s => G_M_isUndone_2 N (nI i) f (nI k) s) (n := q_nt A) (I := fun k s' => s' = s ∧ ¬ ∃ j, j < k ∧ so w j ∧ q_tk A j = 3 ∧ q_tx A j = i) ?_ ?_ N 0 s (by omega) (by omega) ⟨rfl, fun ⟨j, hj, _⟩ => by omega⟩
  · intro f k s' hk hI
    obtain ⟨rfl, h0⟩ := hI
    have ht' := hA.2.2.2.2.1 k hk
    obtain ⟨e2, e3, _⟩ := hR.2 k hk
    have e1 := hR.1
    have h8 : q_tx A k < 100 := by
      by_cases h3 : q_tk A k = 3
      · have := ht'.2.1 h3; omega
      · have := ht'.2.2.1 (by omega); omega
    have hnext : ∀ (hno : ¬ (so w k ∧ q_tk A k = 3 ∧ q_tx A k = i)), ¬ ∃ j, j < k + 1 ∧ so w j ∧ q_tk A j = 3 ∧ q_tx A j = i := by
      intro hno ⟨j, hj, hj2⟩
      by_cases e : j = k
      · subst e; exact hno hj2
      · exact h0 ⟨j, by omega, hj2⟩
    by_cases hs : so w k
    · simp (disch := omega) only [G_M_isUndone_2, GB_M_isUndone_2, G_M_isUndone_61, G_M_isUndone_59, L_0, L_1, L_2, L_3, L_4, L_5, L_6, L_7, L_8, L_9, L_10, L_11, L_12, L_15, L_16, L_20, L_24, L_26, L_31, L_32, L_42, L_48, L_56, L_57, L_59, L_60, L_97, L_98, L_99, L_104, L_106, L_255, L_300, L_462, L_616, neg1, nI_add, nI_mul, pk_div, pk_sub, nI_or, nI_shr, nI_shl, nI_and1, nI_leI, nI_ltI, nI_eq, cd_eq, cd_nI, nI_cd, rdA_nI, stA_nI, wrI_1, Option.bind_some, Option.map_some, Option.bind_none, if_true, if_false, hn, e1, e2, e3, r_isSo_t hw h1 (show k < 31 by omega) hs]
      rw [if_neg (by omega), if_neg (by omega)]
      by_cases h3 : q_tk A k = 3
      · rw [if_pos h3]
        by_cases h5 : q_tx A k = i
        · right
          rw [if_pos h5]
          exact ⟨_, Or.inl ⟨⟨k, hk, hs, h3, h5⟩, rfl⟩, rfl⟩
        · left
          rw [if_neg h5]
          exact ⟨s', ⟨rfl, hnext (fun z => h5 z.2.2)⟩, rfl⟩
      · left
        rw [if_neg h3]
        exact ⟨s', ⟨rfl, hnext (fun z => h3 z.2.1)⟩, rfl⟩
    · left
      simp (disch := omega) only [G_M_isUndone_2, GB_M_isUndone_2, G_M_isUndone_61, G_M_isUndone_59, L_0, L_1, L_2, L_3, L_4, L_5, L_6, L_7, L_8, L_9, L_10, L_11, L_12, L_15, L_16, L_20, L_24, L_26, L_31, L_32, L_42, L_48, L_56, L_57, L_59, L_60, L_97, L_98, L_99, L_104, L_106, L_255, L_300, L_462, L_616, neg1, nI_add, nI_mul, pk_div, pk_sub, nI_or, nI_shr, nI_shl, nI_and1, nI_leI, nI_ltI, nI_eq, cd_eq, cd_nI, nI_cd, rdA_nI, stA_nI, wrI_1, Option.bind_some, Option.map_some, Option.bind_none, if_true, if_false, hn, e1, e2, e3, r_isSo_f hw h1 (show k < 31 by omega) hs]
      rw [if_neg (by omega)]
      exact ⟨s', ⟨rfl, hnext (fun z => hs z.1)⟩, rfl⟩
  · intro f s' hI
    obtain ⟨rfl, h0⟩ := hI
    have e1 := hR.1
    refine ⟨_, Or.inr ⟨h0, rfl⟩, ?_⟩
    simp (disch := omega) only [G_M_isUndone_2, GB_M_isUndone_2, G_M_isUndone_67, L_0, L_1, L_2, L_3, L_4, L_5, L_6, L_7, L_8, L_9, L_10, L_11, L_12, L_15, L_16, L_20, L_24, L_26, L_31, L_32, L_42, L_48, L_56, L_57, L_59, L_60, L_97, L_98, L_99, L_104, L_106, L_255, L_300, L_462, L_616, neg1, nI_add, nI_mul, pk_div, pk_sub, nI_or, nI_shr, nI_shl, nI_and1, nI_leI, nI_ltI, nI_eq, cd_eq, cd_nI, nI_cd, rdA_nI, stA_nI, wrI_1, Option.bind_some, Option.map_some, Option.bind_none, if_true, if_false, hn, e1]
    rw [if_pos (by omega)]
/-- the layout after so many of what was told -/
noncomputable def q_lk (A : AP) (w k : Nat) : LY := if k ≤ q_nq A then q_ly A k else q_lw A w (k - q_nq A)
theorem LV_lk (hA : WF A) (w : Nat) {k : Nat} (hk : k ≤ q_nq A + q_ns A) : LV A (q_lk A w k) := by
  unfold q_lk
  split
  · exact LV_ly hA _ hk
  · exact LV_lw hA w _ (by omega)
theorem q_lk_t {k : Nat} (h : k < q_nq A) : q_lk A w (k + 1) = q_op A k (q_lk A w k) := by
  unfold q_lk
  rw [if_pos (by omega), if_pos (by omega)]
  rfl
theorem q_lk_s {k : Nat} (h : q_nq A ≤ k) : q_lk A w (k + 1) = @ite _ (q_und A w (k - q_nq A)) (Classical.propDecidable _) (q_lk A w k) (q_op A k (q_lk A w k)) := by
  have e : q_lk A w k = q_lw A w (k - q_nq A) := by
    unfold q_lk
    by_cases h2 : k ≤ q_nq A
    · rw [if_pos h2, show k = q_nq A by omega, Nat.sub_self]
      rfl
    · rw [if_neg h2]
  rw [e]
  conv => lhs; unfold q_lk
  rw [if_neg (by omega), show k + 1 - q_nq A = (k - q_nq A) + 1 by omega]
  conv => lhs; unfold q_lw
  rw [show q_nq A + (k - q_nq A) = k by omega]
theorem q_lk_end : q_lk A w (q_nq A + q_ns A) = q_lw A w (q_ns A) := by
  unfold q_lk
  by_cases h : q_nq A + q_ns A ≤ q_nq A
  · rw [if_pos h, show q_ns A = 0 by omega]
    rfl
  · rw [if_neg h, Nat.add_sub_cancel_left]
theorem r_lay82 (hN : 100 ≤ N) (ht : t < 6) (hA : WF A) (hR : RP s t A) (hn : s.1 85 29 = nI t) (hw : s.1 85 30 = nI w) (h1 : w < 2 ^ 31) (h0 : RL (fun _ => 0, fun _ => 0) s) : ∃ s', G_M_lay_64 N (nI t) s = G_M_lay_224 N (nI t) s' ∧ Md [106, 107] [] s s' ∧ RL (q_lw A w (q_ns A)) s' := by
  have hc := hA.1
  unfold WFc at hc
  have a1 := rp_no hR
  have a2 := rp_ns hR
  unfold G_M_lay_64
  simp (disch := omega) only [L_0, L_1, L_2, L_3, L_4, L_5, L_6, L_7, L_8, L_9, L_10, L_11, L_12, L_15, L_16, L_20, L_24, L_26, L_31, L_32, L_42, L_48, L_56, L_57, L_59, L_60, L_97, L_98, L_99, L_104, L_106, L_255, L_300, L_462, L_616, neg1, nI_add, nI_mul, pk_div, pk_sub, nI_or, nI_shr, nI_shl, nI_and1, nI_leI, nI_ltI, nI_eq, cd_eq, cd_nI, nI_cd, rdA_nI, stA_nI, wrI_1, Option.bind_some, Option.map_some, Option.bind_none, if_true, if_false, a1, a2]
  refine Exists.elim (lpE (F := fun f i s => G_M_lay_82 N (nI t) (nI (q_nq A + q_ns A - q_ns A)) f (nI i) s) (n := q_nq A + q_ns A) (I := fun k s' => Md [106, 107] [] s s' ∧ RL (q_lk A w k) s') ?_ N 0 s (by omega) (by omega) ⟨Md_r, by unfold q_lk; rw [if_pos (by omega)]; exact h0⟩) ?_
  rotate_left
  · intro f hlp
    obtain ⟨s', ⟨hm, hI⟩, e⟩ := hlp
    refine ⟨s', ?_, hm, by rw [← q_lk_end]; exact hI⟩
    refine Eq.trans e ?_
    have a3 : s'.1 93 t = nI (q_nq A + q_ns A) := by rw [hm.1 93 (by decide) (by decide)]; exact a1
    simp (disch := omega) only [G_M_lay_82, GB_M_lay_82, L_0, L_1, L_2, L_3, L_4, L_5, L_6, L_7, L_8, L_9, L_10, L_11, L_12, L_15, L_16, L_20, L_24, L_26, L_31, L_32, L_42, L_48, L_56, L_57, L_59, L_60, L_97, L_98, L_99, L_104, L_106, L_255, L_300, L_462, L_616, neg1, nI_add, nI_mul, pk_div, pk_sub, nI_or, nI_shr, nI_shl, nI_and1, nI_leI, nI_ltI, nI_eq, cd_eq, cd_nI, nI_cd, rdA_nI, stA_nI, wrI_1, Option.bind_some, Option.map_some, Option.bind_none, if_true, if_false, a3]
    rw [if_pos (by omega)]
  · intro f k s' hk ⟨hm, hI⟩
    have a3 : s'.1 93 t = nI (q_nq A + q_ns A) := by rw [hm.1 93 (by decide) (by decide)]; exact a1
    have hR' : RP s' t A := RP_md hR hm (by decide)
    have b1 : s'.1 85 29 = nI t := by rw [hm.2.1 29 (by decide)]; exact hn
    have b2 : s'.1 85 30 = nI w := by rw [hm.2.1 30 (by decide)]; exact hw
    have hV := LV_lk hA w (show k ≤ q_nq A + q_ns A by omega)
    obtain ⟨s2, g1, g2, g3⟩ := r_op (N := N) (by omega) ht hA hk hV hR'.2.1 hI (G_M_lay_82 N (nI t) (nI (q_nq A + q_ns A - q_ns A)) f) (nI (q_nq A + q_ns A - q_ns A))
    simp (disch := omega) only [G_M_lay_82, GB_M_lay_82, G_M_lay_218, L_0, L_1, L_2, L_3, L_4, L_5, L_6, L_7, L_8, L_9, L_10, L_11, L_12, L_15, L_16, L_20, L_24, L_26, L_31, L_32, L_42, L_48, L_56, L_57, L_59, L_60, L_97, L_98, L_99, L_104, L_106, L_255, L_300, L_462, L_616, neg1, nI_add, nI_mul, pk_div, pk_sub, nI_or, nI_shr, nI_shl, nI_and1, nI_leI, nI_ltI, nI_eq, cd_eq, cd_nI, nI_cd, rdA_nI, stA_nI, wrI_1, Option.bind_some, Option.map_some, Option.bind_none, if_true, if_false, a3]
    rw [if_neg (by omega)]
    by_cases hq : k < q_nq A
    · rw [if_pos (by omega), g1]
      exact ⟨s2, ⟨Md_t hm g2, by rw [q_lk_t hq]; exact g3⟩, rfl⟩
    · rw [if_neg (by omega)]
      obtain ⟨r, hr, er⟩ := r_isUndone (N := N) (i := k - q_nq A) (by omega) ht hA hR'.2.2.1 b1 b2 h1 (by omega)
      rw [show k - (q_nq A + q_ns A - q_ns A) = k - q_nq A by omega, er, Option.bind_some]
      rcases hr with ⟨hu, rfl⟩ | ⟨hu, rfl⟩
      · rw [if_neg (show ¬ (1 : Int32) = nI 0 by decide)]
        exact ⟨s', ⟨hm, by rw [q_lk_s (by omega), if_pos hu]; exact hI⟩, rfl⟩
      · rw [if_pos (show (0 : Int32) = nI 0 by decide), g1]
        exact ⟨s2, ⟨Md_t hm g2, by rw [q_lk_s (by omega), if_neg hu]; exact g3⟩, rfl⟩
end LAY
