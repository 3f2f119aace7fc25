theorem q_at_hm {A : AP} (hA : WF A) {w x h : Nat} : q_at A w x h = if q_hm A w h ≠ 0 ∧ (q_hm A w h - 1) / 8 = x then (q_hm A w h - 1) % 8 + 1 else 0 := by
  by_cases c : q_hm A w h = 0
  · rw [if_neg (fun z => z.1 c)]
    refine (q_ff_0 6).mpr (fun p hp e => ?_)
    have := (q_hm_s hA).mpr e
    omega
  · obtain ⟨u, hu⟩ : ∃ u, q_hm A w h = u + 1 := ⟨q_hm A w h - 1, by omega⟩
    have hg := (q_hm_s hA).mp hu
    have hst := (q_hg_st hA hg).1
    have hul := q_st_lt hA hst
    have hpr := (hA.2.1 (u / 8) hst.1)
    have hpp := hst.2
    have h6 : u % 8 < 6 := by omega
    rw [hu, Nat.add_sub_cancel]
    by_cases d : u / 8 = x
    · rw [if_pos ⟨by omega, d⟩]
      exact (q_at_iff hA h6).mp (by rw [show 8 * x + u % 8 = u by omega]; exact hg)
    · rw [if_neg (fun z => d z.2)]
      refine (q_ff_0 6).mpr (fun p hp e => d ?_)
      have := (q_hm_s hA).mpr e
      omega
theorem q_at_inj {A : AP} (hA : WF A) {w x : Nat} : minj (q_m0 A w x) := by
  intro h h' _ _ e hne
  have e' : q_at A w x h = q_at A w x h' := e
  have hne' : q_at A w x h ≠ 0 := hne
  have hl : q_at A w x h ≤ 6 := q_ff_lt 6
  obtain ⟨p, hp⟩ : ∃ p, q_at A w x h = p + 1 := ⟨q_at A w x h - 1, by omega⟩
  have h1 := (q_at_iff hA (show p < 6 by omega)).mpr hp
  have h2 := (q_at_iff hA (show p < 6 by omega)).mpr (e'.symm.trans hp)
  omega
section MVE
variable {h0 : Nat → pm_C} {B : Nat} {D : Nat → pd} {hi z : Nat} {s : mst} {N P : Nat} {A : AP} {W : Nat → Nat} {U : Nat → Prop} {w : Nat}
theorem c_work96 (hN : 200 ≤ N) (hf : FX D hi) {m0 : MV} (hV : VM s W U m0) (hi2 : minj m0) (hU : ∀ p, U p → p < 6) (hz : m0.2.2.1 = 0) {K : Nat} (hK : K = 20) : ∃ s', F_Mover_work_96 N (B + 54) N (nI 0) (mkM h0 B D hi z s) = some (mkM h0 B D hi z (s')) ∧ Fm (fun q => 54 ≤ q ∧ q ≤ 57) s s' ∧ VM s' W U (mrun W U m0 K) := by
  have key : ∀ d k fuel s1, k + d = K → d < fuel → Fm (fun q => 54 ≤ q ∧ q ≤ 57) s s1 → VM s1 W U (mrun W U m0 k) → ∃ s', F_Mover_work_96 N (B + 54) fuel (nI k) (mkM h0 B D hi z (s1)) = some (mkM h0 B D hi z (s')) ∧ Fm (fun q => 54 ≤ q ∧ q ≤ 57) s s' ∧ VM s' W U (mrun W U m0 K) := by
    intro d
    induction d with
    | zero =>
      intro k fuel s1 hk hfu hm hV1
      have hkK : k = K := by omega
      obtain ⟨f, rfl⟩ : ∃ f, fuel = f + 1 := ⟨fuel - 1, by omega⟩
      rw [hkK] at hV1
      refine ⟨s1, ?_, hm, hV1⟩
      show B_Mover_work_96 N (F_Mover_work_96 N (B + 54) f) (B + 54) (nI k) (mkM h0 B D hi z (s1)) = _
      unfold B_Mover_work_96 F_Mover_work_124
      rw [L_20, if_pos (nI_le (by omega) (by omega))]
    | succ d ih =>
      intro k fuel s1 hk hfu hm hV1
      obtain ⟨f, rfl⟩ : ∃ f, fuel = f + 1 := ⟨fuel - 1, by omega⟩
      have hnn := mrun_n (W := W) (U := U) hz k
      have hin := minj_run (W := W) (U := U) hi2 k
      have hun : F_Mover_work_96 N (B + 54) (f + 1) (nI k) (mkM h0 B D hi z (s1)) = ((G_Mover_moveHome N s1).map (cvM h0 B D hi z)).bind fun r => if r.1 = 0 then (F_Mover_moveAside N r.2 (B + 54)).bind fun r' => if r'.1 = 0 then some r'.2 else F_Mover_work_96 N (B + 54) f (nI (k + 1)) r'.2 else F_Mover_work_96 N (B + 54) f (nI (k + 1)) r.2 := by
        show B_Mover_work_96 N (F_Mover_work_96 N (B + 54) f) (B + 54) (nI k) (mkM h0 B D hi z (s1)) = _
        unfold B_Mover_work_96 F_Mover_work_117 F_Mover_work_118
        rw [L_20, if_neg (nI_ge (by omega) (by omega)), sg_Mover_moveHome hf, nI_1]
      rw [hun]
      rcases m_home (N := N) (by omega) hV1 (by omega) with ⟨g1, g2⟩ | ⟨g1, s2, g2, g3, g4⟩
      · rw [g2, Option.map_some, Option.bind_some]
        unfold cvM
        dsimp only
        rw [if_pos rfl, sg_Mover_moveAside hf]
        rcases m_aside (N := N) (by omega) hV1 hin hU (by omega) with ⟨a1, a2⟩ | ⟨a1, s2, a2, a3, a4⟩
        · rw [a2, Option.map_some, Option.bind_some]
          unfold cvM
          dsimp only
          rw [if_pos rfl]
          refine ⟨s1, rfl, hm, ?_⟩
          rw [← hk, mrun_s ⟨g1, a1⟩]
          exact hV1
        · rw [a2, Option.map_some, Option.bind_some]
          unfold cvM
          dsimp only
          rw [if_neg i10]
          refine ih (k + 1) f s2 (by omega) (by omega) (Fm_t hm a3) ?_
          show VM s2 W U (mstp W U (mrun W U m0 k))
          unfold mstp
          rw [if_neg (fun y => y g1), if_pos a1]
          exact a4
      · rw [g2, Option.map_some, Option.bind_some]
        unfold cvM
        dsimp only
        rw [if_neg i10]
        refine ih (k + 1) f s2 (by omega) (by omega) (Fm_t hm g3) ?_
        show VM s2 W U (mstp W U (mrun W U m0 k))
        unfold mstp
        rw [if_pos g1]
        exact g4
  exact key K 0 N s (by omega) (by omega) Fm_r hV
theorem c_moverWork (hN : 1000 ≤ N) (hf : FX D hi) (hp : PL D hi P) (hA : WF A) (hcp : CP s P A) (hP : P = 58 ∨ 130 ≤ P) (hPb : P + 30 < 2 ^ 31) (h : CW D hi s A w (0, 0) P) {x M K : Nat} (hx : x < q_nc A) (hM : OPb A w (0, 0) x M) (hK : K = 20) : ∃ s', F_Mover_work N (mkM h0 B D hi z s) (B + 54) (B + 6) (nI x) (nI M) = some (mkM h0 B D hi z (s')) ∧ Fm (fun q => 54 ≤ q ∧ q ≤ 57) s s' ∧ VM s' (q_wt A) (q_us A w x) (mrun (q_wt A) (q_us A w x) (q_m0 A w x) K) := by
  have hc := hA.1
  unfold WFc at hc
  have hxx := hA.2.1 x hx
  have a55 : AR D hi 55 10 := ar_fx hf (by decide) (fx_55 hf) (by decide)
  have a56 : AR D hi 56 10 := ar_fx hf (by decide) (fx_56 hf) (by decide)
  unfold F_Mover_work
  rw [rcm_54 hf, if_pos rfl, wrm_54_3 hf]
  dsimp only [Option.bind_some]
  rw [wrm_54_4 hf]
  dsimp only [Option.bind_some]
  rw [wrm_54_5 hf]
  dsimp only [Option.bind_some]
  have hst : F_Mover_work_18 N (B + 54) (B + 6) (nI x) N 0 (mkM h0 B D hi z (wrI (wrI (wrI s 54 3 (nI M)) 54 4 0) 54 5 0)) = F_Mover_work_18 N (B + 54) (B + 6) (nI x) N (nI 0) (mkM h0 B D hi z (wr1 (wr1 (wr1 s 54 3 (nI M)) 54 4 (nI 0)) 54 5 (nI 0))) := rfl
  rw [hst]
  generalize hs0 : wr1 (wr1 (wr1 s 54 3 (nI M)) 54 4 (nI 0)) 54 5 (nI 0) = s0
  have m0 : Fm (fun q => 54 ≤ q ∧ q ≤ 57) s s0 := by
    rw [← hs0]
    exact Fm_t (Fm_t (Fm_w (by omega)) (Fm_w (by omega))) (Fm_w (by omega))
  have b3 : s0.1 54 3 = nI M := by rw [← hs0, wr1_at, if_neg (by decide), wr1_at, if_neg (by decide), wr1_at, if_pos rfl]
  have b4 : s0.1 54 4 = nI 0 := by rw [← hs0, wr1_at, if_neg (by decide), wr1_at, if_pos rfl]
  have b5 : s0.1 54 5 = nI 0 := by rw [← hs0, wr1_at, if_pos rfl]
  refine Exists.elim (lpE (F := fun f j s => F_Mover_work_18 N (B + 54) (B + 6) (nI x) f (nI j) (mkM h0 B D hi z s)) (n := 10) (I := fun j s' => Fm (fun q => q = 55 ∨ q = 56) s0 s' ∧ ∀ j', j' < j → s'.1 55 j' = cd (q_at A w x j') ∧ s'.1 56 j' = cd (q_wt A j')) ?_ N 0 s0 (Nat.zero_le _) (by omega) ⟨Fm_r, fun j' hj => by omega⟩) ?_
  · intro f j s1 hj ⟨i1, i2⟩
    have m1 : Fm (fun q => 54 ≤ q ∧ q ≤ 57) s s1 := Fm_t m0 (Fm_m i1 (fun q hq => by omega))
    have W1 : CW D hi s1 A w (0, 0) P := CW_fm h m1 hP (fun q hq => by omega)
    have C1 : CP s1 P A := CP_fm hcp m1 (fun q h1 h2 => by omega)
    have hat : q_at A w x j ≤ 6 := q_ff_lt 6
    have fin : F_Mover_work_63_2 N (F_Mover_work_18 N (B + 54) (B + 6) (nI x) f) (B + 54) (B + 6) (nI x) (nI j) (cd (q_at A w x j)) (nI j) (B + 55) (mkM h0 B D hi z (s1)) = F_Mover_work_18 N (B + 54) (B + 6) (nI x) f (nI (j + 1)) (mkM h0 B D hi z (wr1 (wr1 s1 55 j (cd (q_at A w x j))) 56 j (cd (q_wt A j)))) := by
      unfold F_Mover_work_63_2
      rw [ar_s a55, ws_nI hj (by decide)]
      dsimp only [Option.bind_some]
      rw [rdm_54_1 hf]
      dsimp only [Option.bind_some]
      rw [o6_9 hf, wr1_ne (by decide), W1.1, rof_nI (by omega)]
      dsimp only [Option.bind_some]
      rw [pl_10 hp]
      dsimp only [Option.bind_some]
      rw [ar_v (pl_A23 hp), vat_nI hj (by decide), wr1_ne (by omega), C1.2.2.2.2.2.2 j hj]
      dsimp only [Option.bind_some]
      rw [ar_s a56, ws_nI hj (by decide)]
      dsimp only [Option.bind_some]
      rw [nI_1]
    refine ⟨wr1 (wr1 s1 55 j (cd (q_at A w x j))) 56 j (cd (q_wt A j)), ⟨Fm_t i1 (Fm_t (Fm_w (Or.inl rfl)) (Fm_w (Or.inr rfl))), fun j' hj' => ?_⟩, ?_⟩
    · rw [wr1_ne (by decide), wr1_at, wr1_at, wr1_ne (by decide)]
      by_cases c : j' = j
      · rw [if_pos c, if_pos c, c]; exact ⟨rfl, rfl⟩
      · rw [if_neg c, if_neg c]; exact i2 j' (by omega)
    · refine Eq.trans ?_ fin
      show B_Mover_work_18 N (F_Mover_work_18 N (B + 54) (B + 6) (nI x) f) (B + 54) (B + 6) (nI x) (nI j) (mkM h0 B D hi z (s1)) = _
      unfold B_Mover_work_18 F_Mover_work_62_2
      rw [L_10, if_neg (nI_ge hj (by omega)), c_homeOf hf hA W1 hPb hj]
      dsimp only [Option.bind_some]
      rw [rdm_54_0 hf]
      dsimp only [Option.bind_some]
      have hq := q_at_hm hA (w := w) (x := x) (h := j)
      by_cases c : q_hm A w j = 0
      · rw [if_pos (by rw [c, cd_0]), hq, if_neg (fun y => y.1 c), cd_0]
      · obtain ⟨u, hu⟩ : ∃ u, q_hm A w j = u + 1 := ⟨q_hm A w j - 1, by omega⟩
        have hul := q_st_lt hA (q_hg_st hA ((q_hm_s hA).mp hu)).1
        rw [hu, cd_s, if_neg (nI_n1 (by omega)), c_cableOf (by omega)]
        dsimp only [Option.bind_some]
        rw [hu, Nat.add_sub_cancel] at hq
        by_cases d : u / 8 = x
        · rw [if_pos (by rw [d]), c_pairOf (by omega)]
          dsimp only [Option.bind_some]
          rw [hq, if_pos ⟨by omega, d⟩, cd_s]
        · rw [if_neg (fun e => d ((nI_eq (by omega) (by omega)).mp e)), hq, if_neg (fun y => d y.2), cd_0]
  · intro f ⟨s1, ⟨i1, i2⟩, e⟩
    have m1 : Fm (fun q => 54 ≤ q ∧ q ≤ 57) s s1 := Fm_t m0 (Fm_m i1 (fun q hq => by omega))
    have e54 : s1.1 54 = s0.1 54 := i1.1 54 (by omega)
    have V1 : VM s1 (q_wt A) (q_us A w x) (q_m0 A w x) := by
      refine ⟨fun j hj => ⟨q_ff_lt 6, (i2 j hj).1, (i2 j hj).2, hA.2.2.2.2.2.2.2 j hj⟩, ⟨M, by rw [e54]; exact b3, hM.1, hM.2⟩, ⟨0, by rw [e54]; exact b4, by decide, fun j hj => ?_⟩, by rw [e54]; exact b5, fun j hj => absurd hj (Nat.not_lt_zero j)⟩
      rw [Nat.zero_testBit]
      exact ⟨fun y => absurd y (by decide), fun y => absurd rfl y⟩
    obtain ⟨s', g1, g2, g3⟩ := c_work96 (N := N) (h0 := h0) (B := B) (z := z) (K := K) (by omega) hf V1 (q_at_inj hA) (fun p hp2 => by have := hp2.1; omega) rfl hK
    refine ⟨s', Eq.trans e (Eq.trans ?_ g1), Fm_t m1 g2, g3⟩
    show B_Mover_work_18 N (F_Mover_work_18 N (B + 54) (B + 6) (nI x) f) (B + 54) (B + 6) (nI x) (nI 10) (mkM h0 B D hi z (s1)) = _
    unfold B_Mover_work_18 F_Mover_work_93
    rw [L_10, if_pos (nI_le (Nat.le_refl _) (by decide))]
    rfl
end MVE
