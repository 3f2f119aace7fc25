section TOP6
variable {h0 : Nat → pm_C} {B : Nat} {D : Nat → pd} {hi z : Nat} {s : mst} {N np : Nat} {As : Nat → AP} {Ps ow : Nat → Nat} {P L : Nat} {bt : Nat → Nat} {eb : Nat}
theorem r_in2_t {s : mst} {e : Nat} (he : e < 2) : G_M_isIn N s (nI e) 0 1 = some (1, s) := by
  rw [r_isIn, if_neg (nI_pos (by omega)), if_neg (show ¬ (1 : Int32) < nI e from nI_nlt (a := 1) (by omega) (by decide))]
theorem r_in2_f {s : mst} {p : Int32} (h : ¬ okn 2 p) : G_M_isIn N s p 0 1 = some (0, s) := by
  rw [r_isIn]
  rcases okn_not (show 2 < 2 ^ 31 by decide) h with d | d
  · rw [if_pos d]
  · rw [if_pos (gt1_of d), ite_self]
theorem le1_of {e : Nat} (he : e < 2) : nI e ≤ 1 := nI_le (b := 1) (by omega) (by decide)
theorem not2 {α : Type} {p : Int32} (h : ¬ okn 2 p) {x y : α} : (if p < 0 then x else if p ≤ 1 then y else x) = x := by
  rcases okn_not (show 2 < 2 ^ 31 by decide) h with d | d
  · rw [if_pos d]
  · rw [if_neg (show ¬ p ≤ 1 from i32_nle.mpr (gt1_of d)), ite_self]
theorem g_find {t : Nat} (hN : 2000 ≤ N) (h : IA eb D hi z ow s np As Ps P L bt) (ht : t < np) : ∃ D' hi' z' ow' s1, F_Bench_findFits N (mkM h0 B D hi z s) (B + 5) (B + Ps t) = some (mkM h0 B D' hi' z' s1) ∧ IA eb D' hi' z' ow' s1 np As Ps P L bt ∧ FLs s1 (Ps t) (As t) (2 ^ q_nt (As t)) := by
  obtain ⟨a1, a2, a3, a4, a5, a6, a7, a8, a9⟩ := h.1.2.2.2.2.2.2.2.2 t ht
  have hb := h.1.2.2.2.2.2.2.2.1
  have h1 := h.1.1
  obtain ⟨D', hi', z', ow', s1, f1, f2, f3, f4, f5, f6, f7⟩ := c_findFits (N := N) (h0 := h0) (B := B) (z := z) hN h1 a1 a5 a6 a3 (by omega) a2 h.1.2.1 a7
  have o53 := h.1.2.1 53 (by omega)
  have hfx := h1.1
  exact ⟨D', hi', z', ow', s1, f1, IA_grow h ht f2 (Fe_m f3 (fun k hk => Or.inl hk)) (TZ_fe h.1.2.2.2.1 f3 (by unfold KG; omega)) f4 f6 f7, f5⟩
theorem g_fill {t W : Nat} (hN : 2000 ≤ N) (h : IA eb D hi z ow s np As Ps P L bt) (ht : t < np) (hL : FLs s (Ps t) (As t) (2 ^ q_nt (As t))) (hW : W < 2 ^ 24) (hWe : ∀ j, W.testBit j = true → j < 2 * q_ne (As t)) : ∃ D' hi' z' ow' s1, F_Bench_fill N (mkM h0 B D hi z s) (B + 5) (B + Ps t) (nI W) = some (mkM h0 B D' hi' z' s1) ∧ IA eb D' hi' z' ow' s1 np As Ps P L bt ∧ FLs s1 (Ps t) (As t) (2 ^ q_nt (As t)) ∧ ∀ j, W.testBit j = true → has s1 (Ps t) j ∧ ∀ w, w < 2 ^ q_nt (As t) → ∃ v, cv s1 (Ps t) j w = nI v ∧ WD (As t) (j / 2) w (0, 0) (j % 2) v := by
  obtain ⟨a1, a2, a3, a4, a5, a6, a7, a8, a9⟩ := h.1.2.2.2.2.2.2.2.2 t ht
  have hb := h.1.2.2.2.2.2.2.2.1
  have h1 := h.1.1
  obtain ⟨D', hi', z', ow', s1, f1, f2, f3, f4, f5, f6, f7, f8⟩ := c_fillS (N := N) (h0 := h0) (B := B) (z := z) hN h1 a1 a5 a6 a3 (by omega) a2 h.1.2.1 hW hWe a7.1
  have o53 := h.1.2.1 53 (by omega)
  have o26 := a2 26 (by omega)
  have hq := (pl_A26 a1).1
  have hfx := h1.1
  have hL' : FLs s1 (Ps t) (As t) (2 ^ q_nt (As t)) := by
    unfold FLs at hL ⊢
    rw [f5 3 (by decide), f3 (Ps t + 26) (by unfold KF; omega)]
    exact hL
  have hS : SH D' hi' ow' s1 t (Ps t) (As t) := by
    refine ⟨f4, ?_⟩
    rw [f5 4 (by decide)]
    rcases a7.2 with y | y
    · exact Or.inl y
    · exact Or.inr ⟨y.1, hL'⟩
  exact ⟨D', hi', z', ow', s1, f1, IA_grow h ht f2 (Fe_m f3 (fun k hk => Or.inl (KF_KG hk))) (TZ_fe h.1.2.2.2.1 f3 (by unfold KF; omega)) hS f6 f7, hL', f8⟩
theorem g_53 {s1 : mst} (h : IA eb D hi z ow s np As Ps P L bt) (hm : Fm (fun q => q = 5 ∨ q = 53) s s1) (hz : TZ s1) : IA eb D hi z ow s1 np As Ps P L bt := IA_q h (Fe_m (Fe_of hm) (fun q hq => by omega)) hz Me_r
theorem t_fitting {p0 p1 : Int32} (hN : 2000 ≤ N) (h : IA eb D hi z ow s np As Ps P L bt) : ∃ ans D' hi' z' ow' s1, F_BP_fitting N (mkM h0 B D hi z s) (B + 0) p0 p1 = some (ans, mkM h0 B D' hi' z' s1) ∧ IA eb D' hi' z' ow' s1 np As Ps P L bt ∧ ∀ s2, RPs s2 np As → ∃ s3, G_M_fitting N s2 p0 p1 = some (ans, s3) ∧ Me scK scJ s2 s3 := by
  have h1 := h.1.1
  by_cases c0 : okn np p0
  · obtain ⟨t, ht, rfl⟩ := c0
    have ht6 : t < 6 := by have := h.1.2.2.2.2.1; omega
    obtain ⟨D', hi', z', ow', s1, f1, f2, f3⟩ := g_find (N := N) (h0 := h0) (B := B) hN h ht
    obtain ⟨a1, a2, a3, a4, a5, a6, a7, a8, a9⟩ := f2.1.2.2.2.2.2.2.2.2 t ht
    obtain ⟨r, r1, r2, r3⟩ := c_fitting (N := N) (h0 := h0) (B := B) (z := z') (p1 := p1) a1 a5 f3
    refine ⟨r, D', hi', z', ow', s1, ?_, f2, fun s2 hI => ?_⟩
    · unfold F_BP_fitting F_BP_fitting_43
      rw [rcm_0 h1, if_pos rfl, c_planAt_t h.1 ht]
      dsimp only [Option.bind_some]
      rw [rdm_0_3 h1]
      dsimp only [Option.bind_some]
      rw [f1]
      dsimp only [Option.bind_some]
      rw [pl_11 a1]
      dsimp only [Option.bind_some]
      by_cases c1 : p1 = -1
      · rw [if_pos c1, sh_3 a1, r1 c1]
        rfl
      · rw [if_neg c1, r2 c1]
        rfl
    · have i1 := rps0 hI
      have i2 := (i1.2.2 t ht).2
      obtain ⟨r', s3, g1, g2, g3⟩ := r_fitting (N := N) (p1 := p1) hN ht6 a5 i2
      refine ⟨s3, ?_, Me_t Me_0 (Me_m (Me_of g2) (by decide) (by decide))⟩
      unfold G_M_fitting
      rw [r_isPlan_t i1.1 i1.2.1 ht, Option.bind_some]
      dsimp only
      rw [if_neg i10, g1, FIT_u a5 r3 g3]
  · refine ⟨-1, D, hi, z, ow, s, ?_, h, fun s2 hI => ⟨wrI s2 85 0 0, ?_, Me_0⟩⟩
    · unfold F_BP_fitting
      rw [rcm_0 h1, if_pos rfl, c_planAt_f h.1 c0]
      rfl
    · have i1 := rps0 hI
      unfold G_M_fitting
      rw [r_isPlan_f i1.1 i1.2.1 c0, Option.bind_some]
      dsimp only
      rw [if_pos rfl]
theorem t_fewest {p0 : Int32} (hN : 2000 ≤ N) (h : IA eb D hi z ow s np As Ps P L bt) : ∃ ans D' hi' z' ow' s1, F_BP_fewest N (mkM h0 B D hi z s) (B + 0) p0 = some (ans, mkM h0 B D' hi' z' s1) ∧ IA eb D' hi' z' ow' s1 np As Ps P L bt ∧ ∀ s2, RPs s2 np As → ∃ s3, G_M_fewest N s2 p0 = some (ans, s3) ∧ Me scK scJ s2 s3 := by
  have h1 := h.1.1
  by_cases c0 : okn np p0
  · obtain ⟨t, ht, rfl⟩ := c0
    have ht6 : t < 6 := by have := h.1.2.2.2.2.1; omega
    obtain ⟨D', hi', z', ow', s1, f1, f2, f3⟩ := g_find (N := N) (h0 := h0) (B := B) hN h ht
    obtain ⟨a1, a2, a3, a4, a5, a6, a7, a8, a9⟩ := f2.1.2.2.2.2.2.2.2.2 t ht
    refine ⟨q_few (As t), D', hi', z', ow', s1, ?_, f2, fun s2 hI => ?_⟩
    · unfold F_BP_fewest
      rw [rcm_0 h1, if_pos rfl, c_planAt_t h.1 ht]
      dsimp only [Option.bind_some]
      rw [rdm_0_3 h1]
      dsimp only [Option.bind_some]
      rw [f1]
      dsimp only [Option.bind_some]
      rw [pl_11 a1]
      dsimp only [Option.bind_some]
      rw [(c_three hN a1 a5 f3).1]
      rfl
    · have i1 := rps0 hI
      have i2 := (i1.2.2 t ht).2
      obtain ⟨s3, g1, g2⟩ := r_fewest (N := N) hN ht6 a5 i2
      refine ⟨s3, ?_, Me_t Me_0 (Me_m (Me_of g2) (by decide) (by decide))⟩
      unfold G_M_fewest
      rw [r_isPlan_t i1.1 i1.2.1 ht, Option.bind_some]
      dsimp only
      rw [if_neg i10, g1]
  · refine ⟨-1, D, hi, z, ow, s, ?_, h, fun s2 hI => ⟨wrI s2 85 0 0, ?_, Me_0⟩⟩
    · unfold F_BP_fewest
      rw [rcm_0 h1, if_pos rfl, c_planAt_f h.1 c0]
      rfl
    · have i1 := rps0 hI
      unfold G_M_fewest
      rw [r_isPlan_f i1.1 i1.2.1 c0, Option.bind_some]
      dsimp only
      rw [if_pos rfl]
theorem t_sure {p0 p1 : Int32} (hN : 2000 ≤ N) (h : IA eb D hi z ow s np As Ps P L bt) : ∃ ans D' hi' z' ow' s1, F_BP_sure N (mkM h0 B D hi z s) (B + 0) p0 p1 = some (ans, mkM h0 B D' hi' z' s1) ∧ IA eb D' hi' z' ow' s1 np As Ps P L bt ∧ ∀ s2, RPs s2 np As → ∃ s3, G_M_sure N s2 p0 p1 = some (ans, s3) ∧ Me scK scJ s2 s3 := by
  have h1 := h.1.1
  by_cases c0 : okn np p0
  · obtain ⟨t, ht, rfl⟩ := c0
    have ht6 : t < 6 := by have := h.1.2.2.2.2.1; omega
    by_cases c1 : okn 2 p1
    · obtain ⟨e, he, rfl⟩ := c1
      obtain ⟨D', hi', z', ow', s1, f1, f2, f3⟩ := g_find (N := N) (h0 := h0) (B := B) hN h ht
      obtain ⟨a1, a2, a3, a4, a5, a6, a7, a8, a9⟩ := f2.1.2.2.2.2.2.2.2.2 t ht
      refine ⟨if q_fc (As t) (2 ^ q_nt (As t)) = 0 then -1 else if e = 0 then q_all (As t) else q_som (As t), D', hi', z', ow', s1, ?_, f2, fun s2 hI => ?_⟩
      · unfold F_BP_sure F_BP_sure_50
        rw [rcm_0 h1, if_pos rfl, c_planAt_t h.1 ht]
        dsimp only [Option.bind_some]
        rw [if_neg (nI_pos (by omega)), if_pos (le1_of he), rdm_0_3 h1]
        dsimp only [Option.bind_some]
        rw [f1]
        dsimp only [Option.bind_some]
        rw [pl_11 a1]
        dsimp only [Option.bind_some]
        by_cases c2 : e = 0
        · rw [if_pos (by rw [c2]; rfl), (c_three hN a1 a5 f3).2.1, if_pos c2]
          rfl
        · rw [if_neg (nI_ne0 (by omega) (by omega)), (c_three hN a1 a5 f3).2.2, if_neg c2]
          rfl
      · have i1 := rps0 hI
        have i2 := (i1.2.2 t ht).2
        obtain ⟨s3, g1, g2⟩ := r_sure (N := N) hN ht6 a5 i2 he
        obtain ⟨k1, k2⟩ := r_worlds ht6 a5 i2
        refine ⟨s3, ?_, Me_t Me_0 (Me_m (Me_of g2) (by decide) (by decide))⟩
        unfold G_M_sure
        rw [r_isPlan_t i1.1 i1.2.1 ht, Option.bind_some]
        dsimp only
        rw [if_neg i10, r_in2_t he, Option.bind_some]
        dsimp only
        rw [if_neg i10, k1, Option.bind_some, k2, g1]
    · refine ⟨-1, D, hi, z, ow, s, ?_, h, fun s2 hI => ⟨wrI s2 85 0 0, ?_, Me_0⟩⟩
      · unfold F_BP_sure F_BP_sure_19
        rw [rcm_0 h1, if_pos rfl, c_planAt_t h.1 ht]
        dsimp only [Option.bind_some]
        rw [not2 c1]
      · have i1 := rps0 hI
        unfold G_M_sure G_M_sure_22
        rw [r_isPlan_t i1.1 i1.2.1 ht, Option.bind_some]
        dsimp only
        rw [if_neg i10, r_in2_f c1, Option.bind_some]
        dsimp only
        rw [if_pos rfl]
  · refine ⟨-1, D, hi, z, ow, s, ?_, h, fun s2 hI => ⟨wrI s2 85 0 0, ?_, Me_0⟩⟩
    · unfold F_BP_sure F_BP_sure_19
      rw [rcm_0 h1, if_pos rfl, c_planAt_f h.1 c0]
      rfl
    · have i1 := rps0 hI
      unfold G_M_sure G_M_sure_22
      rw [r_isPlan_f i1.1 i1.2.1 c0, Option.bind_some]
      dsimp only
      rw [if_pos rfl]
theorem t_parts {p0 p1 p3 : Int32} {wet : Nat} (hwet : wet ≤ 1) (hN : 2000 ≤ N) (h : IA eb D hi z ow s np As Ps P L bt) : ∃ ans D' hi' z' ow' s1, F_BP_parts N (mkM h0 B D hi z s) (B + 0) p0 p1 (nI wet) p3 = some (ans, mkM h0 B D' hi' z' s1) ∧ IA eb D' hi' z' ow' s1 np As Ps P L bt ∧ ∀ s2, RPs s2 np As → ∃ s3, G_M_parts N s2 p0 p1 (nI wet) p3 = some (ans, s3) ∧ Me scK scJ s2 s3 := by
  have h1 := h.1.1
  by_cases c0 : ∃ t k, t < np ∧ k < q_ne (As t) ∧ p0 = nI t ∧ p1 = nI k
  · obtain ⟨t, k, ht, hk, rfl, rfl⟩ := c0
    have ht6 : t < 6 := by have := h.1.2.2.2.2.1; omega
    obtain ⟨b1, b2, b3, b4, b5, b6, b7, b8, b9⟩ := h.1.2.2.2.2.2.2.2.2 t ht
    have hc := b5.1
    unfold WFc at hc
    by_cases c1 : okn 2 p3
    · obtain ⟨e, he, rfl⟩ := c1
      obtain ⟨D', hi', z', ow', s1, f1, f2, f3⟩ := g_find (N := N) (h0 := h0) (B := B) hN h ht
      have hW : 2 ^ (2 * k + wet) < 2 ^ 24 := Nat.pow_lt_pow_right (by decide) (by omega)
      have hWb : ∀ j, (2 ^ (2 * k + wet)).testBit j = true ↔ j = 2 * k + wet := by
        intro j
        rw [Nat.testBit_two_pow]
        simp only [decide_eq_true_eq]
        exact ⟨fun y => y.symm, fun y => y.symm⟩
      obtain ⟨D2, hi2, z2, ow2, s2, g1, g2, g3, g4⟩ := g_fill (N := N) (h0 := h0) (B := B) (W := 2 ^ (2 * k + wet)) hN f2 ht f3 hW (fun j hj => by rw [hWb] at hj; omega)
      obtain ⟨g5, g6⟩ := g4 (2 * k + wet) ((hWb _).mpr rfl)
      rw [show (2 * k + wet) / 2 = k by omega, show (2 * k + wet) % 2 = wet by omega] at g6
      obtain ⟨a1, a2, a3, a4, a5, a6, a7, a8, a9⟩ := g2.1.2.2.2.2.2.2.2.2 t ht
      obtain ⟨s3, k1, k2, k3, k4, k5⟩ := c_partFits (N := N) (h0 := h0) (B := B) (z := z2) hN g2.1.1 a1 a5 a3 a2 g2.1.2.1 a7.1.1 g3 hk hwet g5 g6 g2.1.2.2.2.1
      refine ⟨if e = 0 then nI (q_lg (As t) (q_tl (As t) k wet) (2 ^ q_nt (As t))) else nI (q_kd (As t) (q_tl (As t) k wet) (2 ^ q_nt (As t))), D2, hi2, z2, ow2, s3, ?_, g_53 g2 k2 k3, fun s4 hI => ?_⟩
      · unfold F_BP_parts F_BP_parts_95
        rw [rcm_0 h1, if_pos rfl, c_planAt_t h.1 ht]
        dsimp only [Option.bind_some]
        rw [pl_8 b1]
        dsimp only [Option.bind_some]
        rw [c_hasTest_t b1 b6 b5 hk]
        dsimp only [Option.bind_some]
        rw [if_neg i10, if_neg (nI_pos (by omega)), if_pos (le1_of he), rdm_0_3 h1]
        dsimp only [Option.bind_some]
        rw [f1]
        dsimp only [Option.bind_some]
        rw [rdm_0_3 f2.1.1]
        dsimp only [Option.bind_some]
        rw [c_columnOf hwet]
        dsimp only [Option.bind_some]
        rw [sh1b (by omega), g1]
        dsimp only [Option.bind_some]
        rw [rdm_0_3 g2.1.1]
        dsimp only [Option.bind_some]
        rw [k1]
        dsimp only [Option.bind_some]
        rw [rdm_0_3 g2.1.1]
        dsimp only [Option.bind_some]
        by_cases c2 : e = 0
        · rw [if_pos (by rw [c2]; rfl), rdm_5_4 g2.1.1, k4, if_pos c2]
          rfl
        · rw [if_neg (nI_ne0 (by omega) (by omega)), rdm_5_5 g2.1.1, k5, if_neg c2]
          rfl
      · have i1 := rps0 hI
        have i2 := (i1.2.2 t ht).2
        obtain ⟨s5, l1, l2, l3⟩ := r_layFits (N := N) hN ht6 a5 i2
        have R5 : RP s5 t (As t) := RP_md i2 l2 (by decide)
        obtain ⟨s6, m1, m2, m3, m4⟩ := r_layParts (N := N) hN ht6 a5 R5 hk hwet l3
        refine ⟨s6, ?_, Me_t Me_0 (Me_t (Me_m (Me_of l2) (by decide) (by decide)) (Me_m (Me_of m2) (by decide) (by decide)))⟩
        unfold G_M_parts G_M_parts_54
        rw [r_isTest_t i1 ht hk, Option.bind_some]
        dsimp only
        rw [if_neg i10, r_in2_t he, Option.bind_some]
        dsimp only
        rw [if_neg i10, l1, Option.bind_some, m1, Option.bind_some, m3, m4]
        by_cases c2 : e = 0
        · rw [if_pos (by rw [c2]; rfl), if_pos c2]
        · rw [if_neg (nI_ne0 (by omega) (by omega)), if_neg c2]
    · refine ⟨-1, D, hi, z, ow, s, ?_, h, fun s2 hI => ⟨wrI s2 85 0 0, ?_, Me_0⟩⟩
      · unfold F_BP_parts F_BP_parts_35
        rw [rcm_0 h1, if_pos rfl, c_planAt_t h.1 ht]
        dsimp only [Option.bind_some]
        rw [pl_8 b1]
        dsimp only [Option.bind_some]
        rw [c_hasTest_t b1 b6 b5 hk]
        dsimp only [Option.bind_some]
        rw [if_neg i10, not2 c1]
      · have i1 := rps0 hI
        unfold G_M_parts G_M_parts_24
        rw [r_isTest_t i1 ht hk, Option.bind_some]
        dsimp only
        rw [if_neg i10, r_in2_f c1, Option.bind_some]
        dsimp only
        rw [if_pos rfl]
  · refine ⟨-1, D, hi, z, ow, s, ?_, h, fun s2 hI => ⟨wrI s2 85 0 0, ?_, Me_0⟩⟩
    · unfold F_BP_parts F_BP_parts_35
      rw [rcm_0 h1, if_pos rfl]
      by_cases d : okn np p0
      · obtain ⟨t, ht, rfl⟩ := d
        obtain ⟨b1, b2, b3, b4, b5, b6, b7, b8, b9⟩ := h.1.2.2.2.2.2.2.2.2 t ht
        rw [c_planAt_t h.1 ht]
        dsimp only [Option.bind_some]
        rw [pl_8 b1]
        dsimp only [Option.bind_some]
        rw [c_hasTest_f b1 b6 b5 (fun ⟨k, hk, y⟩ => c0 ⟨t, k, ht, hk, rfl, y⟩)]
        dsimp only [Option.bind_some]
        rw [if_pos rfl]
      · rw [c_planAt_f h.1 d]
        rfl
    · have i1 := rps0 hI
      unfold G_M_parts G_M_parts_24
      rw [r_isTest_f i1 c0, Option.bind_some]
      dsimp only
      rw [if_pos rfl]
theorem t_next {p0 p2 p3 : Int32} {wet : Nat} (hwet : wet ≤ 1) (hN : 2000 ≤ N) (h : IA eb D hi z ow s np As Ps P L bt) : ∃ ans D' hi' z' ow' s1, F_BP_next N (mkM h0 B D hi z s) (B + 0) p0 (nI wet) p2 p3 = some (ans, mkM h0 B D' hi' z' s1) ∧ IA eb D' hi' z' ow' s1 np As Ps P L bt ∧ ∀ s2, RPs s2 np As → ∃ s3, G_M_next N s2 p0 (nI wet) p2 p3 = some (ans, s3) ∧ Me scK scJ s2 s3 := by
  have h1 := h.1.1
  by_cases c0 : okn np p0
  · obtain ⟨t, ht, rfl⟩ := c0
    have ht6 : t < 6 := by have := h.1.2.2.2.2.1; omega
    obtain ⟨b1, b2, b3, b4, b5, b6, b7, b8, b9⟩ := h.1.2.2.2.2.2.2.2.2 t ht
    have hc := b5.1
    unfold WFc at hc
    by_cases c2 : okn (q_nb (As t)) p2
    · obtain ⟨b, hb, rfl⟩ := c2
      by_cases c3 : 0 ≤ p3
      · have ref : ∀ s2, RPs s2 np As → ∃ s3, G_M_next N s2 (nI t) (nI wet) (nI b) p3 = some (cd (q_next (As t) wet b p3), s3) ∧ Me scK scJ s2 s3 := by
          intro s2 hI
          have i1 := rps0 hI
          have i2 := (i1.2.2 t ht).2
          obtain ⟨r1, e1, e2⟩ := r_box_t (N := N) ht6 i2 b5 hb
          obtain ⟨s5, l1, l2, l3⟩ := r_layFits (N := N) hN ht6 b5 i2
          have R5 : RP s5 t (As t) := RP_md i2 l2 (by decide)
          obtain ⟨s6, m1, m2⟩ := r_next (N := N) (p3 := p3) hN ht6 b5 R5 hwet hb l3
          refine ⟨s6, ?_, Me_t Me_0 (Me_t (Me_m (Me_of l2) (by decide) (by decide)) (Me_m (Me_of m2) (by decide) (by decide)))⟩
          unfold G_M_next
          rw [r_isPlan_t i1.1 i1.2.1 ht, Option.bind_some]
          dsimp only
          rw [if_neg i10, e1, Option.bind_some, e2, Option.bind_some]
          dsimp only
          rw [if_neg i10, if_pos c3, l1, Option.bind_some, m1]
        obtain ⟨D', hi', z', ow', s1, f1, f2, f3⟩ := g_find (N := N) (h0 := h0) (B := B) hN h ht
        obtain ⟨d1, d2, d3, d4, d5, d6, d7, d8, d9⟩ := f2.1.2.2.2.2.2.2.2.2 t ht
        have pre : F_BP_next N (mkM h0 B D hi z s) (B + 0) (nI t) (nI wet) (nI b) p3 = if nI (q_fc (As t) (2 ^ q_nt (As t))) = 0 then some (-1, mkM h0 B D' hi' z' s1) else (F_Bench_columnsOfAll N (mkM h0 B D' hi' z' s1) (B + 5) (B + Ps t) (nI wet)).bind fun (v15, S14) => (F_Bench_fill N S14 (B + 5) (B + Ps t) v15).bind fun S16 => (oR S16 (B + 0) 10 3).bind fun oq17 => match oq17 with
          | none => none
          | some q17 => (F_Bench_bestTest N S16 q17 (B + Ps t) (nI wet) (nI b) p3).bind fun (v19, S18) => some (v19, S18) := by
          unfold F_BP_next
          rw [rcm_0 h1, if_pos rfl, c_planAt_t h.1 ht]
          dsimp only [Option.bind_some]
          rw [c_hasBox_t b1 b6 b5 hb]
          dsimp only [Option.bind_some]
          rw [if_neg i10, if_pos c3, rdm_0_3 h1]
          dsimp only [Option.bind_some]
          rw [f1]
          dsimp only [Option.bind_some]
          rw [pl_11 d1]
          dsimp only [Option.bind_some]
          rw [sh_3 d1, f3.1]
          dsimp only [Option.bind_some]
          rw [rdm_0_3 f2.1.1]
          dsimp only [Option.bind_some]
          rfl
        rw [pre]
        have hfc := q_fc_le (A := As t) (2 ^ q_nt (As t))
        have hpw := pow10 b5.1.2.2.2.2.2.1
        by_cases c4 : q_fc (As t) (2 ^ q_nt (As t)) = 0
        · refine ⟨cd (q_next (As t) wet b p3), D', hi', z', ow', s1, ?_, f2, ref⟩
          rw [if_pos (by rw [c4]; rfl)]
          unfold q_next
          rw [if_pos c4, cd_0]
        · obtain ⟨W, w1, w2, w3⟩ := c_columnsOfAll (N := N) (h0 := h0) (B := B) (z := z') hN f2.1.1 d1 d5 d6 hwet
          obtain ⟨D2, hi2, z2, ow2, s2, g1, g2, g3, g4⟩ := g_fill (N := N) (h0 := h0) (B := B) (W := W) hN f2 ht f3 w2 (fun j hj => by
            obtain ⟨k, k1, k2⟩ := (w3 j).mp hj
            omega)
          obtain ⟨a1, a2, a3, a4, a5, a6, a7, a8, a9⟩ := g2.1.2.2.2.2.2.2.2.2 t ht
          have hac : AC s2 (Ps t) (As t) wet := by
            intro k hk
            obtain ⟨g5, g6⟩ := g4 (2 * k + wet) ((w3 _).mpr ⟨k, hk, rfl⟩)
            rw [show (2 * k + wet) / 2 = k by omega, show (2 * k + wet) % 2 = wet by omega] at g6
            exact ⟨g5, g6⟩
          obtain ⟨s3, k1, k2, k3⟩ := c_bestTest (N := N) (h0 := h0) (B := B) (z := z2) (p3 := p3) hN g2.1.1 a1 a5 a6 a3 a2 g2.1.2.1 a7.1.1 g3 hwet hb hac g2.1.2.2.2.1 c4
          refine ⟨cd (q_next (As t) wet b p3), D2, hi2, z2, ow2, s3, ?_, g_53 g2 k2 k3, ref⟩
          rw [if_neg (nI_ne0 (by omega) (by omega)), w1]
          dsimp only [Option.bind_some]
          rw [g1]
          dsimp only [Option.bind_some]
          rw [rdm_0_3 g2.1.1]
          dsimp only [Option.bind_some]
          rw [k1]
          rfl
      · refine ⟨-1, D, hi, z, ow, s, ?_, h, fun s2 hI => ⟨wrI s2 85 0 0, ?_, Me_0⟩⟩
        · unfold F_BP_next F_BP_next_26
          rw [rcm_0 h1, if_pos rfl, c_planAt_t h.1 ht]
          dsimp only [Option.bind_some]
          rw [c_hasBox_t b1 b6 b5 hb]
          dsimp only [Option.bind_some]
          rw [if_neg i10, if_neg c3]
        · have i1 := rps0 hI
          have i2 := (i1.2.2 t ht).2
          obtain ⟨r1, e1, e2⟩ := r_box_t (N := N) ht6 i2 b5 hb
          unfold G_M_next G_M_next_34
          rw [r_isPlan_t i1.1 i1.2.1 ht, Option.bind_some]
          dsimp only
          rw [if_neg i10, e1, Option.bind_some, e2, Option.bind_some]
          dsimp only
          rw [if_neg i10, if_neg c3]
    · refine ⟨-1, D, hi, z, ow, s, ?_, h, fun s2 hI => ⟨wrI s2 85 0 0, ?_, Me_0⟩⟩
      · unfold F_BP_next F_BP_next_26
        rw [rcm_0 h1, if_pos rfl, c_planAt_t h.1 ht]
        dsimp only [Option.bind_some]
        rw [c_hasBox_f b1 b6 b5 c2]
        dsimp only [Option.bind_some]
        rw [if_pos rfl]
      · have i1 := rps0 hI
        have i2 := (i1.2.2 t ht).2
        obtain ⟨r1, e1, e2⟩ := r_box_f (N := N) ht6 i2 b5 c2
        unfold G_M_next G_M_next_34
        rw [r_isPlan_t i1.1 i1.2.1 ht, Option.bind_some]
        dsimp only
        rw [if_neg i10, e1, Option.bind_some, e2, Option.bind_some]
        dsimp only
        rw [if_pos rfl]
  · refine ⟨-1, D, hi, z, ow, s, ?_, h, fun s2 hI => ⟨wrI s2 85 0 0, ?_, Me_0⟩⟩
    · unfold F_BP_next F_BP_next_26
      rw [rcm_0 h1, if_pos rfl, c_planAt_f h.1 c0]
      rfl
    · have i1 := rps0 hI
      unfold G_M_next G_M_next_34
      rw [r_isPlan_f i1.1 i1.2.1 c0, Option.bind_some]
      dsimp only
      rw [if_pos rfl]
end TOP6
