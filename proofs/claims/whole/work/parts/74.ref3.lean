/-! ===== the reference: a WORLD is laid; breaks, ends ===== -/
def RW (s : mst) (t : Nat) (A : AP) (w : Nat) (b : Nat × Nat) (wet : Nat) : Prop := s.1 85 29 = nI t ∧ s.1 85 30 = nI w ∧ s.1 85 34 = nI wet ∧ (b.1 = 0 → s.1 85 31 = cd 0) ∧ (b.1 ≠ 0 → s.1 85 31 = nI ((b.1 - 1) / 8) ∧ s.1 85 32 = nI ((b.1 - 1) % 8) ∧ s.1 85 33 = nI b.2) ∧ RL (q_lw A w (q_ns A)) s ∧ ∀ i, i < 42 → s.1 108 i = nI (q_out A w (s8 i) % 8)
/-- a WORLD, WET or not, maybe with one more BREAK -/
def GW (A : AP) (w : Nat) (b : Nat × Nat) (wet : Nat) : Prop := WF A ∧ w < 1024 ∧ wet ≤ 1 ∧ (b.1 = 0 ∨ (w = 0 ∧ q_st A (b.1 - 1) ∧ b.2 ≤ 99))
theorem RW_md {s s' : mst} {t : Nat} {A : AP} {w wet : Nat} {b : Nat × Nat} {K J : List Nat} (h : RW s t A w b wet) (hm : Md K J s s') (hK : 106 ∉ K ∧ 107 ∉ K ∧ 108 ∉ K) (hJ : 29 ∉ J ∧ 30 ∉ J ∧ 31 ∉ J ∧ 32 ∉ J ∧ 33 ∉ J ∧ 34 ∉ J) : RW s' t A w b wet := by
  unfold RW RL at h ⊢
  rw [hm.2.1 29 hJ.1, hm.2.1 30 hJ.2.1, hm.2.1 31 hJ.2.2.1, hm.2.1 32 hJ.2.2.2.1, hm.2.1 33 hJ.2.2.2.2.1, hm.2.1 34 hJ.2.2.2.2.2, hm.1 106 hK.1 (by decide), hm.1 107 hK.2.1 (by decide), hm.1 108 hK.2.2 (by decide)]
  exact h
section LAY2
variable {N t w wet : Nat} {s : mst} {A : AP} {b : Nat × Nat}
theorem r_lay272 (hN : 10 ≤ N) (ht : t < 6) (hA : WF A) {k : Nat} (hk : k < q_nt A) (h0 : q_tk A k = 0) (hR : RPt s t A) {o : Nat → Nat} (ho : ∀ s, o s / 8 = s / 8) (h8 : ∀ i, i < 42 → s.1 108 i = nI (o (s8 i) % 8)) (rc : Int32 → mst → Option mst) : ∃ s', G_M_lay_272 N rc (nI t) (nI k) (nI (10 * t + k)) N 0 s = rc (nI (k + 1)) s' ∧ Md [108] [] s s' ∧ ∀ i, i < 42 → s'.1 108 i = nI (q_sw (q_a A k) (q_b A k) (o (s8 i)) % 8) := by
  obtain ⟨ha, hb, ha8, hb8, ham, hbm, _⟩ := q_abst hA hk (Or.inl h0)
  have has := q_st_lt hA ha
  have hbs := q_st_lt hA hb
  have hc := hA.1
  unfold WFc at hc
  obtain ⟨e1, e2, e3, e4, _⟩ := hR.2 k hk
  replace e3 := e3 (by omega)
  replace e4 := e4 (Or.inl h0)
  refine Exists.elim (lpE (F := fun f p s => G_M_lay_272 N rc (nI t) (nI k) (nI (10 * t + k)) f (nI p) s) (n := 6) (I := fun p s' => Md [108] [] s s' ∧ ∀ i, i < 42 → s'.1 108 i = nI ((if i / 6 = q_tx A k ∧ i % 6 < p then q_sw (q_a A k) (q_b A k) (o (s8 i)) else o (s8 i)) % 8)) ?_ N 0 s (by omega) (by omega) ⟨Md_r, fun i hi => by rw [if_neg (by omega)]; exact h8 i hi⟩) ?_
  rotate_left
  · intro f hlp
    obtain ⟨s', ⟨hm, hI⟩, e⟩ := hlp
    refine ⟨s', ?_, hm, fun i hi => ?_⟩
    · refine Eq.trans e ?_
      simp (disch := omega) only [G_M_lay_272, GB_M_lay_272, G_M_lay_368, L_0, L_1, L_2, L_3, L_4, L_5, L_6, L_7, L_8, L_9, L_10, L_11, L_12, L_15, L_16, L_20, L_24, L_26, L_31, L_32, L_42, L_48, L_56, L_57, L_59, L_60, L_97, L_98, L_99, L_104, L_106, L_255, L_300, L_462, L_616, neg1, nI_add, nI_mul, pk_div, pk_sub, nI_or, nI_shr, nI_shl, nI_and1, nI_leI, nI_ltI, nI_eq, cd_eq, cd_nI, nI_cd, rdA_nI, stA_nI, wrI_1, Option.bind_some, Option.map_some, Option.bind_none, if_true, if_false]
      rw [if_pos (by omega)]
    · rw [hI i hi]
      by_cases hx : i / 6 = q_tx A k
      · rw [if_pos ⟨hx, by omega⟩]
      · rw [if_neg (fun z => hx z.1)]
        have h9 := ho (s8 i)
        rw [(s8_st hi).1] at h9
        rcases q_sw_cases (a := q_a A k) (b := q_b A k) (s := o (s8 i)) with z | ⟨z, _⟩ | ⟨z, _⟩
        · rw [z]
        · rw [z, ha8] at h9; exact absurd h9.symm hx
        · rw [z, hb8] at h9; exact absurd h9.symm hx
  · intro f p s' hp ⟨hm, hI⟩
    have f2 : s'.1 102 (10 * t + k) = nI (q_tx A k) := by rw [hm.1 102 (by decide) (by decide)]; exact e2
    have f3 : s'.1 103 (10 * t + k) = nI (q_tp A k) := by rw [hm.1 103 (by decide) (by decide)]; exact e3
    have f4 : s'.1 104 (10 * t + k) = nI (q_tq A k) := by rw [hm.1 104 (by decide) (by decide)]; exact e4
    have hi0 : 6 * q_tx A k + p < 42 := by omega
    have g := hI (6 * q_tx A k + p) hi0
    rw [if_neg (by omega)] at g
    have h9 := ho (s8 (6 * q_tx A k + p))
    rw [(s8_st hi0).1] at h9
    generalize hv : o (s8 (6 * q_tx A k + p)) = v at g h9
    have hfin : ∀ (u : Nat), u = q_sw (q_a A k) (q_b A k) v % 8 → ∀ i, i < 42 → (wr1 s' 108 (6 * q_tx A k + p) (nI u)).1 108 i = nI ((if i / 6 = q_tx A k ∧ i % 6 < p + 1 then q_sw (q_a A k) (q_b A k) (o (s8 i)) else o (s8 i)) % 8) := by
      intro u hu i hi
      rw [wr1_at]
      by_cases hi1 : i = 6 * q_tx A k + p
      · rw [if_pos hi1, if_pos (by omega), hi1, hv, hu]
      · rw [if_neg hi1, hI i hi]
        by_cases h6 : i / 6 = q_tx A k ∧ i % 6 < p
        · rw [if_pos h6, if_pos (by omega)]
        · rw [if_neg h6, if_neg (by omega)]
    simp (disch := omega) only [G_M_lay_272, GB_M_lay_272, G_M_lay_361, L_0, L_1, L_2, L_3, L_4, L_5, L_6, L_7, L_8, L_9, L_10, L_11, L_12, L_15, L_16, L_20, L_24, L_26, L_31, L_32, L_42, L_48, L_56, L_57, L_59, L_60, L_97, L_98, L_99, L_104, L_106, L_255, L_300, L_462, L_616, neg1, nI_add, nI_mul, pk_div, pk_sub, nI_or, nI_shr, nI_shl, nI_and1, nI_leI, nI_ltI, nI_eq, cd_eq, cd_nI, nI_cd, rdA_nI, stA_nI, wrI_1, Option.bind_some, Option.map_some, Option.bind_none, if_true, if_false, f2, f3, f4, g]
    rw [if_neg (by omega)]
    by_cases c1 : v % 8 = q_tp A k
    · rw [if_pos c1]
      refine ⟨_, ⟨Md_t hm (Md_w (by decide) (by decide)), hfin _ ?_⟩, rfl⟩
      unfold q_sw
      rw [if_pos (by omega), hbm]
    · rw [if_neg c1]
      by_cases c2 : v % 8 = q_tq A k
      · rw [if_pos c2]
        refine ⟨_, ⟨Md_t hm (Md_w (by decide) (by decide)), hfin _ ?_⟩, rfl⟩
        unfold q_sw
        rw [if_neg (fun z => c1 (by rw [z, ham])), if_pos (by omega), ham]
      · rw [if_neg c2]
        refine ⟨_, ⟨Md_t hm (Md_w (by decide) (by decide)), hfin _ ?_⟩, rfl⟩
        unfold q_sw
        rw [if_neg (fun z => c1 (by rw [z, ham])), if_neg (fun z => c2 (by rw [z, hbm]))]
theorem r_lay224 (hN : 100 ≤ N) (ht : t < 6) (hA : WF A) (hR : RPt s t A) (hw : s.1 85 30 = nI w) (h1 : w < 2 ^ 31) (h8 : ∀ i, i < 42 → s.1 108 i = nI (i % 6)) : ∃ s', G_M_lay_224 N (nI t) s = some s' ∧ Md [108] [] s s' ∧ ∀ i, i < 42 → s'.1 108 i = nI (q_out A w (s8 i) % 8) := by
  have hc := hA.1
  unfold WFc at hc
  unfold G_M_lay_224
  refine Exists.elim (lpE (F := fun f k s => G_M_lay_227 N (nI t) f (nI k) s) (n := q_nt A) (I := fun k s' => Md [108] [] s s' ∧ ∀ i, i < 42 → s'.1 108 i = nI (q_ou A w k (s8 i) % 8)) ?_ N 0 s (by omega) (by omega) ⟨Md_r, fun i hi => by rw [h8 i hi]; show _ = nI (s8 i % 8); rw [(s8_st hi).2]⟩) ?_
  rotate_left
  · intro f hlp
    obtain ⟨s', ⟨hm, hI⟩, e⟩ := hlp
    refine ⟨s', ?_, hm, hI⟩
    refine Eq.trans e ?_
    have a3 : s'.1 100 t = nI (q_nt A) := by rw [hm.1 100 (by decide) (by decide)]; exact hR.1
    simp (disch := omega) only [G_M_lay_227, GB_M_lay_227, G_M_lay_374, L_0, L_1, L_2, L_3, L_4, L_5, L_6, L_7, L_8, L_9, L_10, L_11, L_12, L_15, L_16, L_20, L_24, L_26, L_31, L_32, L_42, L_48, L_56, L_57, L_59, L_60, L_97, L_98, L_99, L_104, L_106, L_255, L_300, L_462, L_616, neg1, nI_add, nI_mul, pk_div, pk_sub, nI_or, nI_shr, nI_shl, nI_and1, nI_leI, nI_ltI, nI_eq, cd_eq, cd_nI, nI_cd, rdA_nI, stA_nI, wrI_1, Option.bind_some, Option.map_some, Option.bind_none, if_true, if_false, a3]
    rw [if_pos (by omega)]
  · intro f k s' hk ⟨hm, hI⟩
    have a3 : s'.1 100 t = nI (q_nt A) := by rw [hm.1 100 (by decide) (by decide)]; exact hR.1
    have a4 : s'.1 101 (10 * t + k) = nI (q_tk A k) := by rw [hm.1 101 (by decide) (by decide)]; exact (hR.2 k hk).1
    have b2 : s'.1 85 30 = nI w := by rw [hm.2.1 30 (by decide)]; exact hw
    have htk := (hA.2.2.2.2.1 k hk).1
    have hR' : RPt s' t A := by
      unfold RPt at hR ⊢
      rw [hm.1 100 (by decide) (by decide), hm.1 101 (by decide) (by decide), hm.1 102 (by decide) (by decide), hm.1 103 (by decide) (by decide), hm.1 104 (by decide) (by decide), hm.1 105 (by decide) (by decide)]
      exact hR
    by_cases hs : so w k
    · by_cases h0 : q_tk A k = 0
      · obtain ⟨s2, g1, g2, g3⟩ := r_lay272 (N := N) (by omega) ht hA hk h0 hR' (o := q_ou A w k) (fun z => (q_ou_st hA w k z (by omega)).2) hI (G_M_lay_227 N (nI t) f)
        simp (disch := omega) only [G_M_lay_227, GB_M_lay_227, L_0, L_1, L_2, L_3, L_4, L_5, L_6, L_7, L_8, L_9, L_10, L_11, L_12, L_15, L_16, L_20, L_24, L_26, L_31, L_32, L_42, L_48, L_56, L_57, L_59, L_60, L_97, L_98, L_99, L_104, L_106, L_255, L_300, L_462, L_616, neg1, nI_add, nI_mul, pk_div, pk_sub, nI_or, nI_shr, nI_shl, nI_and1, nI_leI, nI_ltI, nI_eq, cd_eq, cd_nI, nI_cd, rdA_nI, stA_nI, wrI_1, Option.bind_some, Option.map_some, Option.bind_none, if_true, if_false, a3, a4, r_isSo_t b2 h1 (show k < 31 by omega) hs]
        rw [if_neg (by omega), if_neg (by omega), if_pos h0]
        refine ⟨s2, ⟨Md_t hm g2, fun i hi => ?_⟩, g1⟩
        rw [g3 i hi]
        simp only [q_ou, if_pos (show q_is A w k 0 from ⟨hs, h0⟩)]
      · simp (disch := omega) only [G_M_lay_227, GB_M_lay_227, G_M_lay_368, L_0, L_1, L_2, L_3, L_4, L_5, L_6, L_7, L_8, L_9, L_10, L_11, L_12, L_15, L_16, L_20, L_24, L_26, L_31, L_32, L_42, L_48, L_56, L_57, L_59, L_60, L_97, L_98, L_99, L_104, L_106, L_255, L_300, L_462, L_616, neg1, nI_add, nI_mul, pk_div, pk_sub, nI_or, nI_shr, nI_shl, nI_and1, nI_leI, nI_ltI, nI_eq, cd_eq, cd_nI, nI_cd, rdA_nI, stA_nI, wrI_1, Option.bind_some, Option.map_some, Option.bind_none, if_true, if_false, a3, a4, r_isSo_t b2 h1 (show k < 31 by omega) hs]
        rw [if_neg (by omega), if_neg (by omega), if_neg h0]
        refine ⟨s', ⟨hm, fun i hi => ?_⟩, rfl⟩
        simp only [q_ou, if_neg (show ¬ q_is A w k 0 from fun z => h0 z.2)]
        exact hI i hi
    · simp (disch := omega) only [G_M_lay_227, GB_M_lay_227, G_M_lay_368, L_0, L_1, L_2, L_3, L_4, L_5, L_6, L_7, L_8, L_9, L_10, L_11, L_12, L_15, L_16, L_20, L_24, L_26, L_31, L_32, L_42, L_48, L_56, L_57, L_59, L_60, L_97, L_98, L_99, L_104, L_106, L_255, L_300, L_462, L_616, neg1, nI_add, nI_mul, pk_div, pk_sub, nI_or, nI_shr, nI_shl, nI_and1, nI_leI, nI_ltI, nI_eq, cd_eq, cd_nI, nI_cd, rdA_nI, stA_nI, wrI_1, Option.bind_some, Option.map_some, Option.bind_none, if_true, if_false, a3, r_isSo_f b2 h1 (show k < 31 by omega) hs]
      rw [if_neg (by omega)]
      refine ⟨s', ⟨hm, fun i hi => ?_⟩, rfl⟩
      simp only [q_ou, if_neg (show ¬ q_is A w k 0 from fun z => hs z.1)]
      exact hI i hi
theorem r_lay (hN : 100 ≤ N) (ht : t < 6) (hG : GW A w (0, 0) wet) (hR : RP s t A) : ∃ s', G_M_lay N s (nI t) (nI w) (nI wet) = some s' ∧ RW s' t A w (0, 0) wet ∧ Md [106, 107, 108] [29, 30, 31, 34] s s' := by
  obtain ⟨hA, hw, hwet, _⟩ := hG
  unfold G_M_lay
  have hz : nI wet = 0 ∨ nI wet = 1 := by
    have : wet = 0 ∨ wet = 1 := by omega
    rcases this with rfl | rfl
    · exact Or.inl rfl
    · exact Or.inr rfl
  unfold wrZ
  rw [if_pos hz, Option.bind_some, wrI_1, wrI_1, wrI_1, wrI_1]
  generalize hs0 : wr1 (wr1 (wr1 (wr1 s 85 29 (nI t)) 85 30 (nI w)) 85 34 (nI wet)) 85 31 (-1) = s0
  have m0 : Md [106, 107, 108] [29, 30, 31, 34] s s0 := by
    rw [← hs0]
    exact Md_t (Md_t (Md_t (Md_f (by decide)) (Md_f (by decide))) (Md_f (by decide))) (Md_f (by decide))
  have v29 : s0.1 85 29 = nI t := by rw [← hs0]; simp only [wr1_at]; rfl
  have v30 : s0.1 85 30 = nI w := by rw [← hs0]; simp only [wr1_at]; rfl
  have v34 : s0.1 85 34 = nI wet := by rw [← hs0]; simp only [wr1_at]; rfl
  have v31 : s0.1 85 31 = cd 0 := by rw [← hs0, cd_0]; simp only [wr1_at]; rfl
  refine Exists.elim (lpE (F := fun f i s => G_M_lay_23 N (nI t) f (nI i) s) (n := 42) (I := fun i s' => Md [106, 107, 108] [] s0 s' ∧ ∀ j, j < i → s'.1 106 j = cd 0 ∧ s'.1 107 j = cd 0 ∧ s'.1 108 j = nI (j % 6)) ?_ N 0 s0 (by omega) (by omega) ⟨Md_r, fun j hj => by omega⟩) ?_
  rotate_left
  · intro f hlp
    obtain ⟨s1, ⟨m1, hI⟩, e⟩ := hlp
    have R1 : RP s1 t A := RP_md (RP_md hR m0 (by decide)) m1 (by decide)
    have u29 : s1.1 85 29 = nI t := by rw [m1.2.1 29 (by decide)]; exact v29
    have u30 : s1.1 85 30 = nI w := by rw [m1.2.1 30 (by decide)]; exact v30
    obtain ⟨s2, e2, m2, l2⟩ := r_lay82 hN ht hA R1 u29 u30 (by omega) (fun i hi => ⟨(hI i hi).1, (hI i hi).2.1⟩)
    have R2 : RP s2 t A := RP_md R1 m2 (by decide)
    obtain ⟨s3, e3, m3, l3⟩ := r_lay224 (s := s2) hN ht hA R2.2.2.1 (by rw [m2.2.1 30 (by decide)]; exact u30) (by omega) (fun i hi => by rw [m2.1 108 (by decide) (by decide)]; exact (hI i hi).2.2)
    refine ⟨s3, ?_, ⟨?_, ?_, ?_, fun _ => ?_, fun h => absurd rfl h, fun i hi => ?_, l3⟩, Md_t m0 (Md_t (Md_m m1 (by decide) (by decide)) (Md_t (Md_m m2 (by decide) (by decide)) (Md_m m3 (by decide) (by decide))))⟩
    · refine Eq.trans e ?_
      simp (disch := omega) only [G_M_lay_23, GB_M_lay_23, L_0, L_1, L_2, L_3, L_4, L_5, L_6, L_7, L_8, L_9, L_10, L_11, L_12, L_15, L_16, L_20, L_24, L_26, L_31, L_32, L_42, L_48, L_56, L_57, L_59, L_60, L_97, L_98, L_99, L_104, L_106, L_255, L_300, L_462, L_616, neg1, nI_add, nI_mul, pk_div, pk_sub, nI_or, nI_shr, nI_shl, nI_and1, nI_leI, nI_ltI, nI_eq, cd_eq, cd_nI, nI_cd, rdA_nI, stA_nI, wrI_1, Option.bind_some, Option.map_some, Option.bind_none, if_true, if_false]
      rw [if_pos (by omega), e2, e3]
    · rw [m3.2.1 29 (by decide), m2.2.1 29 (by decide)]; exact u29
    · rw [m3.2.1 30 (by decide), m2.2.1 30 (by decide)]; exact u30
    · rw [m3.2.1 34 (by decide), m2.2.1 34 (by decide), m1.2.1 34 (by decide)]; exact v34
    · rw [m3.2.1 31 (by decide), m2.2.1 31 (by decide), m1.2.1 31 (by decide)]; exact v31
    · rw [m3.1 106 (by decide) (by decide), m3.1 107 (by decide) (by decide)]
      exact l2 i hi
  · intro f i s' hi ⟨hm, hI⟩
    simp (disch := omega) only [G_M_lay_23, GB_M_lay_23, L_0, L_1, L_2, L_3, L_4, L_5, L_6, L_7, L_8, L_9, L_10, L_11, L_12, L_15, L_16, L_20, L_24, L_26, L_31, L_32, L_42, L_48, L_56, L_57, L_59, L_60, L_97, L_98, L_99, L_104, L_106, L_255, L_300, L_462, L_616, neg1, nI_add, nI_mul, pk_div, pk_sub, nI_or, nI_shr, nI_shl, nI_and1, nI_leI, nI_ltI, nI_eq, cd_eq, cd_nI, nI_cd, rdA_nI, stA_nI, wrI_1, Option.bind_some, Option.map_some, Option.bind_none, if_true, if_false]
    rw [if_neg (by omega)]
    refine ⟨_, ⟨Md_t hm (Md_t (Md_t (Md_w (by decide) (by decide)) (Md_w (by decide) (by decide))) (Md_w (by decide) (by decide))), fun j hj => ?_⟩, rfl⟩
    simp only [wr1_g]
    by_cases hji : j = i
    · subst hji
      simp
      congr 1
      omega
    · simp [hji]
      exact hI j (by omega)
theorem r_longOf (hR : RP s t A) (hW : RW s t A w b wet) {x : Nat} (ht : t < 6) (hA : WF A) (hx : x < q_nc A) : G_M_longOf N s (nI x) = some (nI (q_ln A x), s) := by
  have hc := hA.1
  unfold WFc at hc
  have h1 := hW.1
  have h2 := rp_ln hR hx
  simp (disch := omega) only [G_M_longOf, L_0, L_1, L_2, L_3, L_4, L_5, L_6, L_7, L_8, L_9, L_10, L_11, L_12, L_15, L_16, L_20, L_24, L_26, L_31, L_32, L_42, L_48, L_56, L_57, L_59, L_60, L_97, L_98, L_99, L_104, L_106, L_255, L_300, L_462, L_616, neg1, nI_add, nI_mul, pk_div, pk_sub, nI_or, nI_shr, nI_shl, nI_and1, nI_leI, nI_ltI, nI_eq, cd_eq, cd_nI, nI_cd, rdA_nI, stA_nI, wrI_1, Option.bind_some, Option.map_some, Option.bind_none, if_true, if_false, h1, h2]
theorem r_breaksTo (hN : 100 ≤ N) (ht : t < 6) (hG : GW A w b wet) (hR : RP s t A) (hW : RW s t A w b wet) {x p d : Nat} (hx : x < q_nc A) (hp : p < 8) (hd : d < 1000) : G_M_breaksTo N s (nI x) (nI p) (nI d) = some (nI (q_nk A w b (8 * x + p) d), s) := by
  obtain ⟨hA, hw, hwet, hb⟩ := hG
  have hc := hA.1
  unfold WFc at hc
  obtain ⟨w29, w30, _, wb0, wb1, _⟩ := hW
  have key : ∀ e0 : Nat, e0 < 2 → G_M_breaksTo_29 N (nI x) (nI p) (nI d) (nI e0) s = some (nI (e0 + q_cn A w (8 * x + p) d (q_nt A)), s) := by
    intro e0 he0
    unfold G_M_breaksTo_29
    refine Exists.elim (lpE (F := fun f k (s : Int32 × mst) => G_M_breaksTo_34 N (nI x) (nI p) (nI d) f s.1 (nI k) s.2) (n := q_nt A) (I := fun k s' => s'.1 = nI (e0 + q_cn A w (8 * x + p) d k) ∧ s'.2 = s) ?_ N 0 (nI e0, s) (by omega) (by omega) ⟨rfl, rfl⟩) ?_
    rotate_left
    · intro f hlp
      obtain ⟨s', ⟨hI1, hI2⟩, e⟩ := hlp
      refine Eq.trans e ?_
      have e1 := rp_nt hR
      simp (disch := omega) only [G_M_breaksTo_34, GB_M_breaksTo_34, G_M_breaksTo_129, L_0, L_1, L_2, L_3, L_4, L_5, L_6, L_7, L_8, L_9, L_10, L_11, L_12, L_15, L_16, L_20, L_24, L_26, L_31, L_32, L_42, L_48, L_56, L_57, L_59, L_60, L_97, L_98, L_99, L_104, L_106, L_255, L_300, L_462, L_616, neg1, nI_add, nI_mul, pk_div, pk_sub, nI_or, nI_shr, nI_shl, nI_and1, nI_leI, nI_ltI, nI_eq, cd_eq, cd_nI, nI_cd, rdA_nI, stA_nI, wrI_1, Option.bind_some, Option.map_some, Option.bind_none, if_true, if_false, hI1, hI2, e1, w29]
      rw [if_pos (by omega)]
    · intro f k s' hk ⟨hI1, hI2⟩
      have e1 := rp_nt hR
      have e2 := rp_tk hR hk
      have e3 := rp_tx hR hk
      have htt := hA.2.2.2.2.1 k hk
      have h8 : q_tx A k < 100 := by
        by_cases h3 : q_tk A k = 3
        · have := htt.2.1 h3; omega
        · have := htt.2.2.1 (by omega); omega
      by_cases hs : so w k
      · by_cases h1 : q_tk A k = 1
        · have e4 := rp_tp hR hk (by omega)
          have e5 := rp_td hR hk (Or.inl h1)
          obtain ⟨a1, a2, a3⟩ := q_ast hA hk (by omega)
          have a4 := q_st_lt hA a1
          have a5 := htt.2.2.2.2 (Or.inl h1)
          have a6 := hA.2.1 (q_tx A k) (by omega)
          simp (disch := omega) only [G_M_breaksTo_34, GB_M_breaksTo_34, G_M_breaksTo_120, G_M_breaksTo_119, L_0, L_1, L_2, L_3, L_4, L_5, L_6, L_7, L_8, L_9, L_10, L_11, L_12, L_15, L_16, L_20, L_24, L_26, L_31, L_32, L_42, L_48, L_56, L_57, L_59, L_60, L_97, L_98, L_99, L_104, L_106, L_255, L_300, L_462, L_616, neg1, nI_add, nI_mul, pk_div, pk_sub, nI_or, nI_shr, nI_shl, nI_and1, nI_leI, nI_ltI, nI_eq, cd_eq, cd_nI, nI_cd, rdA_nI, stA_nI, wrI_1, Option.bind_some, Option.map_some, Option.bind_none, if_true, if_false, hI1, hI2, e1, e2, e3, e4, e5, w29, r_isSo_t w30 (show w < 2 ^ 31 by omega) (show k < 31 by omega) hs]
          rw [if_neg (by omega), if_neg (by omega), if_pos h1]
          have eq : q_a A k = 8 * x + p ↔ q_tx A k = x ∧ q_tp A k = p := by unfold q_a; omega
          by_cases c1 : q_tx A k = x
          · rw [if_pos c1]
            by_cases c2 : q_tp A k = p
            · rw [if_pos c2]
              by_cases c3 : d < q_td A k
              · rw [if_pos c3]
                refine ⟨(nI (e0 + q_cn A w (8 * x + p) d k), s), ⟨?_, rfl⟩, ?_⟩
                · simp only [q_cn]
                  rw [if_neg (fun z => by omega), Nat.add_zero]
                · simp only [Nat.add_zero]
              · rw [if_neg c3]
                refine ⟨(nI (e0 + q_cn A w (8 * x + p) d k + 1), s), ⟨?_, rfl⟩, rfl⟩
                simp only [q_cn]
                rw [if_pos ⟨⟨hs, h1⟩, eq.mpr ⟨c1, c2⟩, by omega⟩]
                rfl
            · rw [if_neg c2]
              refine ⟨(nI (e0 + q_cn A w (8 * x + p) d k), s), ⟨?_, rfl⟩, ?_⟩
              · simp only [q_cn]
                rw [if_neg (fun z => c2 (eq.mp z.2.1).2), Nat.add_zero]
              · simp only [Nat.add_zero]
          · rw [if_neg c1]
            refine ⟨(nI (e0 + q_cn A w (8 * x + p) d k), s), ⟨?_, rfl⟩, ?_⟩
            · simp only [q_cn]
              rw [if_neg (fun z => c1 (eq.mp z.2.1).1), Nat.add_zero]
            · simp only [Nat.add_zero]
        · simp (disch := omega) only [G_M_breaksTo_34, GB_M_breaksTo_34, G_M_breaksTo_120, G_M_breaksTo_119, L_0, L_1, L_2, L_3, L_4, L_5, L_6, L_7, L_8, L_9, L_10, L_11, L_12, L_15, L_16, L_20, L_24, L_26, L_31, L_32, L_42, L_48, L_56, L_57, L_59, L_60, L_97, L_98, L_99, L_104, L_106, L_255, L_300, L_462, L_616, neg1, nI_add, nI_mul, pk_div, pk_sub, nI_or, nI_shr, nI_shl, nI_and1, nI_leI, nI_ltI, nI_eq, cd_eq, cd_nI, nI_cd, rdA_nI, stA_nI, wrI_1, Option.bind_some, Option.map_some, Option.bind_none, if_true, if_false, hI1, hI2, e1, e2, w29, r_isSo_t w30 (show w < 2 ^ 31 by omega) (show k < 31 by omega) hs]
          rw [if_neg (by omega), if_neg (by omega), if_neg h1]
          refine ⟨(nI (e0 + q_cn A w (8 * x + p) d k), s), ⟨?_, rfl⟩, ?_⟩
          · simp only [q_cn]
            rw [if_neg (fun z => h1 z.1.2), Nat.add_zero]
          · simp only [Nat.add_zero]
      · simp (disch := omega) only [G_M_breaksTo_34, GB_M_breaksTo_34, G_M_breaksTo_120, G_M_breaksTo_119, L_0, L_1, L_2, L_3, L_4, L_5, L_6, L_7, L_8, L_9, L_10, L_11, L_12, L_15, L_16, L_20, L_24, L_26, L_31, L_32, L_42, L_48, L_56, L_57, L_59, L_60, L_97, L_98, L_99, L_104, L_106, L_255, L_300, L_462, L_616, neg1, nI_add, nI_mul, pk_div, pk_sub, nI_or, nI_shr, nI_shl, nI_and1, nI_leI, nI_ltI, nI_eq, cd_eq, cd_nI, nI_cd, rdA_nI, stA_nI, wrI_1, Option.bind_some, Option.map_some, Option.bind_none, if_true, if_false, hI1, hI2, e1, w29, r_isSo_f w30 (show w < 2 ^ 31 by omega) (show k < 31 by omega) hs]
        rw [if_neg (by omega)]
        refine ⟨(nI (e0 + q_cn A w (8 * x + p) d k), s), ⟨?_, rfl⟩, ?_⟩
        · simp only [q_cn]
          rw [if_neg (fun z => hs z.1.1), Nat.add_zero]
        · simp only [Nat.add_zero]
  unfold G_M_breaksTo G_M_breaksTo_28
  by_cases hb0 : b.1 = 0
  · rw [wb0 hb0, cd_0, if_neg (n1_nI (by omega))]
    refine Eq.trans (key 0 (by omega)) ?_
    unfold q_nk
    rw [if_neg (by omega)]
  · obtain ⟨v1, v2, v3⟩ := wb1 hb0
    obtain ⟨_, hb2, hb3⟩ : w = 0 ∧ q_st A (b.1 - 1) ∧ b.2 ≤ 99 := by
      rcases hb with z | z
      · exact absurd z hb0
      · exact z
    have hb4 := q_st_lt hA hb2
    rw [v1, v2, v3]
    simp (disch := omega) only [L_0, L_1, L_2, L_3, L_4, L_5, L_6, L_7, L_8, L_9, L_10, L_11, L_12, L_15, L_16, L_20, L_24, L_26, L_31, L_32, L_42, L_48, L_56, L_57, L_59, L_60, L_97, L_98, L_99, L_104, L_106, L_255, L_300, L_462, L_616, neg1, nI_add, nI_mul, pk_div, pk_sub, nI_or, nI_shr, nI_shl, nI_and1, nI_leI, nI_ltI, nI_eq, cd_eq, cd_nI, nI_cd, rdA_nI, stA_nI, wrI_1, Option.bind_some, Option.map_some, Option.bind_none, if_true, if_false]
    unfold q_nk
    have k0 := key 0 (by omega)
    have k1 := key 1 (by omega)
    by_cases c1 : (b.1 - 1) / 8 = x
    · rw [if_pos c1]
      by_cases c2 : (b.1 - 1) % 8 = p
      · rw [if_pos c2]
        by_cases c3 : d < b.2
        · rw [if_pos c3, if_neg (by omega)]
          exact k0
        · rw [if_neg c3, if_pos (by omega)]
          exact k1
      · rw [if_neg c2, if_neg (by omega)]
        exact k0
    · rw [if_neg c1, if_neg (by omega)]
      exact k0
theorem r_cameAs (hN : 100 ≤ N) (ht : t < 6) (hA : WF A) (hR : RP s t A) (hW : RW s t A w b wet) {x n : Nat} (hx : x < q_nc A) (hn : n < q_pr A x) : G_M_cameAs N s (nI x) (nI n) = some (nI (q_in A w (8 * x + n) % 8), s) := by
  have hc := hA.1
  unfold WFc at hc
  have hxx := hA.2.1 x hx
  have e0 := hW.1
  have e1 := rp_pr hR hx
  have h108 := hW.2.2.2.2.2.2
  have hst : q_st A (8 * x + n) := ⟨by rw [show (8 * x + n) / 8 = x by omega]; exact hx, by rw [show (8 * x + n) / 8 = x by omega, show (8 * x + n) % 8 = n by omega]; exact hn⟩
  obtain ⟨hi1, hi2⟩ := q_in_st hA (w := w) (s := 8 * x + n)
  have hin := hi1.mpr hst
  have hi3 : q_in A w (8 * x + n) % 8 < q_pr A x := by
    have := hin.2
    rw [hi2, show (8 * x + n) / 8 = x by omega] at this
    exact this
  have hi4 : q_in A w (8 * x + n) = 8 * x + q_in A w (8 * x + n) % 8 := by omega
  unfold G_M_cameAs
  refine Exists.elim (lpQ (F := fun f i s => G_M_cameAs_2 N (nI x) (nI n) f (nI i) s) (n := q_pr A x) (I := fun i s' => s' = s ∧ ∀ j, j < i → j ≠ q_in A w (8 * x + n) % 8) (Q := fun r => r = (nI (q_in A w (8 * x + n) % 8), s)) ?_ ?_ N 0 s (by omega) (by omega) ⟨rfl, fun j hj => by omega⟩) ?_
  rotate_left 2
  · intro r hlp
    obtain ⟨rfl, e⟩ := hlp
    exact e
  · intro f i s' hi hI
    obtain ⟨rfl, h0⟩ := hI
    have e2 := h108 (6 * x + i) (by omega)
    have e3 : s8 (6 * x + i) = 8 * x + i := by unfold s8; omega
    rw [e3] at e2
    have e4 := (q_out_st hA (w := w) (s := 8 * x + i)).2
    simp (disch := omega) only [G_M_cameAs_2, GB_M_cameAs_2, G_M_cameAs_35, L_0, L_1, L_2, L_3, L_4, L_5, L_6, L_7, L_8, L_9, L_10, L_11, L_12, L_15, L_16, L_20, L_24, L_26, L_31, L_32, L_42, L_48, L_56, L_57, L_59, L_60, L_97, L_98, L_99, L_104, L_106, L_255, L_300, L_462, L_616, neg1, nI_add, nI_mul, pk_div, pk_sub, nI_or, nI_shr, nI_shl, nI_and1, nI_leI, nI_ltI, nI_eq, cd_eq, cd_nI, nI_cd, rdA_nI, stA_nI, wrI_1, Option.bind_some, Option.map_some, Option.bind_none, if_true, if_false, e0, e1, e2]
    rw [if_neg (by omega)]
    by_cases c : q_out A w (8 * x + i) % 8 = n
    · right
      rw [if_pos c]
      refine ⟨_, rfl, ?_⟩
      have : q_out A w (8 * x + i) = 8 * x + n := by omega
      rw [← this, q_in_out, show (8 * x + i) % 8 = i by omega]
    · left
      rw [if_neg c]
      refine ⟨s', ⟨rfl, fun j hj => ?_⟩, rfl⟩
      by_cases hji : j = i
      · subst hji
        intro z
        apply c
        rw [z, ← hi4, q_out_in]
        omega
      · exact h0 j (by omega)
  · intro f s' hI
    exact absurd rfl (hI.2 _ hi3)
/-- the reference's number of a piece -/
def nm (v : Nat) : Nat := (6 * (v / 16 / 8) + v / 16 % 8) * 11 + v % 16
/-- a piece -/
def nok (A : AP) (v : Nat) : Prop := q_st A (v / 16) ∧ v % 16 ≤ 10
theorem nm_lt (hA : WF A) {v : Nat} (h : nok A v) : nm v < 462 := by
  have := q_st_lt hA h.1
  have := h.2
  unfold nm
  omega
theorem nm_inj (hA : WF A) {v u : Nat} (h : nok A v) (h' : nok A u) (e : nm v = nm u) : v = u := by
  have := q_st_lt hA h.1
  have := h.2
  have := q_st_lt hA h'.1
  have := h'.2
  unfold nm at e
  omega
theorem r_near {x p : Nat} (hp : p < 8) : G_M_nearNode N s (nI x) (nI p) = some (nI (nm (16 * (8 * x + p))), s) := by
  unfold G_M_nearNode G_M_node
  rw [Option.bind_some, L_6, nI_mul, nI_add, L_11, nI_mul, L_0, nI_add, show (6 * x + p) * 11 + 0 = nm (16 * (8 * x + p)) by unfold nm; omega]
theorem q_nd_ok (hG : GW A w b wet) {u e : Nat} (hu : q_st A u) : nok A (q_nd A w b u e) := by
  obtain ⟨hA, hw, hwet, hb⟩ := hG
  unfold q_nd
  split
  · refine ⟨?_, by omega⟩
    rw [show 16 * u / 16 = u by omega]
    exact hu
  · have h1 : q_nk A w b (q_in A w u) (q_ln A (u / 8)) ≤ 10 := q_nk_le hA (by rcases hb with z | z; exact Or.inl z; exact Or.inr z.1)
    refine ⟨?_, by omega⟩
    rw [show (16 * q_in A w u + q_nk A w b (q_in A w u) (q_ln A (u / 8))) / 16 = q_in A w u by omega]
    exact (q_in_st hA).1.mpr hu
theorem r_far (hN : 100 ≤ N) (ht : t < 6) (hG : GW A w b wet) (hR : RP s t A) (hW : RW s t A w b wet) {x n : Nat} (hx : x < q_nc A) (hn : n < q_pr A x) : G_M_farNode N s (nI x) (nI n) = some (nI (nm (q_nd A w b (8 * x + n) 1)), s) := by
  have hA := hG.1
  have hc := hA.1
  unfold WFc at hc
  have hxx := hA.2.1 x hx
  have hst : q_st A (8 * x + n) := ⟨by rw [show (8 * x + n) / 8 = x by omega]; exact hx, by rw [show (8 * x + n) / 8 = x by omega, show (8 * x + n) % 8 = n by omega]; exact hn⟩
  obtain ⟨hi1, hi2⟩ := q_in_st hA (w := w) (s := 8 * x + n)
  have hi4 : q_in A w (8 * x + n) = 8 * x + q_in A w (8 * x + n) % 8 := by omega
  unfold G_M_farNode G_M_node
  rw [r_cameAs hN ht hA hR hW hx hn, Option.bind_some, r_longOf hR hW ht hA hx, Option.bind_some, r_breaksTo hN ht hG hR hW hx (by omega) (by omega), Option.bind_some]
  rw [← hi4]
  have h1 : q_nk A w b (q_in A w (8 * x + n)) (q_ln A x) ≤ 10 := q_nk_le hA (by rcases hG.2.2.2 with z | z; exact Or.inl z; exact Or.inr z.1)
  simp (disch := omega) only [L_0, L_1, L_2, L_3, L_4, L_5, L_6, L_7, L_8, L_9, L_10, L_11, L_12, L_15, L_16, L_20, L_24, L_26, L_31, L_32, L_42, L_48, L_56, L_57, L_59, L_60, L_97, L_98, L_99, L_104, L_106, L_255, L_300, L_462, L_616, neg1, nI_add, nI_mul, pk_div, pk_sub, nI_or, nI_shr, nI_shl, nI_and1, nI_leI, nI_ltI, nI_eq, cd_eq, cd_nI, nI_cd, rdA_nI, stA_nI, wrI_1, Option.bind_some, Option.map_some, Option.bind_none, if_true, if_false]
  unfold nm q_nd
  rw [if_neg (by omega), show (8 * x + n) / 8 = x by omega]
  congr 3
  omega
theorem r_nodeAt (hN : 100 ≤ N) (ht : t < 6) (hG : GW A w b wet) (hR : RP s t A) (hW : RW s t A w b wet) {x n e : Nat} (hx : x < q_nc A) (hn : n < q_pr A x) (he : e < 2) : G_M_nodeAt N s (nI x) (nI n) (nI e) = some (nI (nm (q_nd A w b (8 * x + n) e)), s) := by
  have hxx := hG.1.2.1 x hx
  have : e = 0 ∨ e = 1 := by omega
  unfold G_M_nodeAt G_M_nodeAt_19
  rcases this with rfl | rfl
  · rw [if_pos nI_0, r_near (by omega)]
    rfl
  · rw [if_neg (by decide), r_far hN ht hG hR hW hx hn]
    rfl
end LAY2
