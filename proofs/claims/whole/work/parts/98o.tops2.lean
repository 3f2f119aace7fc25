section TOP2
variable {h0 : Nat → pm_C} {B : Nat} {D : Nat → pd} {hi z : Nat} {s : mst} {N np : Nat} {As : Nat → AP} {Ps ow : Nat → Nat}
theorem gt1_of {p : Int32} (h : nI 2 ≤ p) : (1 : Int32) < p := by
  have := (nI_m1_lt (n := 2) (p0 := p) (by decide)).mpr h
  rw [show nI 2 - 1 = (1 : Int32) from by decide] at this
  exact this
theorem t_distance {p0 p1 p2 p3 p4 : Int32} (hN : 2000 ≤ N) (h : INV D hi ow s np As Ps) : ∃ ans s1, F_BP_distance N (mkM h0 B D hi z s) (B + 0) p0 p1 p2 p3 p4 = some (ans, (mkM h0 B D hi z (s1))) ∧ Fm (fun q => 6 ≤ q ∧ q ≤ 51) s s1 ∧ ∀ D2 hi2 ow2 Ps2 s2, INV D2 hi2 ow2 s2 np As Ps2 → ∃ s3, G_M_distance N s2 p0 p1 p2 p3 p4 = some (ans, s3) ∧ Me scK scJ s2 s3 := by
  have h1 := h.1
  by_cases c : okP np As p0 p1 p2
  · obtain ⟨t, x, p, ht, hx, hp, rfl, rfl, rfl⟩ := c
    obtain ⟨a1, a2, a3, a4, a5, a6, a7, a8, a9⟩ := h.2.2.2.2.2.2.2.2 t ht
    have ht6 : t < 6 := by have := h.2.2.2.2.1; omega
    have hc := a5.1
    unfold WFc at hc
    have hxx := a5.2.1 x hx
    have hdiv : (8 * x + p) / 8 = x := by omega
    have hst : q_st (As t) (8 * x + p) := by unfold q_st; rw [hdiv]; exact ⟨hx, by rw [show (8 * x + p) % 8 = p by omega]; exact hp⟩
    have cls : F_BP_distance N (mkM h0 B D hi z s) (B + 0) (nI t) (nI x) (nI p) p3 p4 = if p3 < 0 then some (-1, (mkM h0 B D hi z s)) else if p4 < 0 then some (-1, (mkM h0 B D hi z s)) else if p4 ≤ 1 then (if p4 = 1 then F_BP_distance_64_2 N 1 p3 (nI (8 * x + p)) (B + Ps t) (B + 5) (mkM h0 B D hi z s) else F_BP_distance_64_2 N 0 p3 (nI (8 * x + p)) (B + Ps t) (B + 5) (mkM h0 B D hi z s)) else some (-1, (mkM h0 B D hi z s)) := by
      unfold F_BP_distance F_BP_distance_38
      rw [rcm_0 h1, if_pos rfl, c_planAt_t h ht]
      dsimp only [Option.bind_some]
      rw [c_hasPair_t a1 a6 a5 hx hp]
      dsimp only [Option.bind_some]
      rw [if_neg i10, rdm_0_3 h1]
      dsimp only [Option.bind_some]
      rw [c_siteOf]
      dsimp only [Option.bind_some]
    have ref : ∀ D2 hi2 ow2 Ps2 s2, INV D2 hi2 ow2 s2 np As Ps2 → RP (wrI s2 85 0 0) t (As t) ∧ G_M_distance N s2 (nI t) (nI x) (nI p) p3 p4 = if p3 < 0 then some (-1, wrI s2 85 0 0) else if (if p4 < 0 then (0 : Int32) else if 1 < p4 then 0 else 1) = 0 then some (-1, wrI s2 85 0 0) else G_M_distance_41 N (nI t) (nI x) (nI p) p3 p4 N (-1) (-1) 0 (wrI s2 85 0 0) := by
      intro D2 hi2 ow2 Ps2 s2 hI
      have hI' := INV_sc hI (Me_0 (s := s2))
      have hR := ((INV_rps hI').2.2 t ht).2
      refine ⟨hR, ?_⟩
      unfold G_M_distance G_M_distance_30
      rw [r_isPair_t hI'.2.2.2.2.2.1 hI'.2.2.2.2.1 ht a5 hR hx hp, Option.bind_some]
      dsimp only
      rw [if_neg i10, r_isIn, Option.bind_some]
    rw [cls]
    by_cases c3 : p3 < 0
    · refine ⟨-1, s, if_pos c3, Fm_r, fun D2 hi2 ow2 Ps2 s2 hI => ⟨wrI s2 85 0 0, ?_, Me_0⟩⟩
      rw [(ref D2 hi2 ow2 Ps2 s2 hI).2, if_pos c3]
    · rw [if_neg c3]
      by_cases c4 : okn 2 p4
      · obtain ⟨e, he, rfl⟩ := c4
        obtain ⟨s1, g1, g2⟩ := c_breakAt (N := N) (h0 := h0) (B := B) (z := z) (p3 := p3) (e := e) hN h1 a1 a5 a6 a3 a4 hst (by omega)
        refine ⟨cd (q_dist (As t) (8 * x + p) p3 e), s1, ?_, g2, fun D2 hi2 ow2 Ps2 s2 hI => ?_⟩
        · rw [if_neg (nI_pos (by omega)), L_1, if_pos (nI_le (by omega) (by decide))]
          unfold F_BP_distance_64_2
          by_cases e1 : e = 1
          · rw [if_pos (by rw [e1])]
            rw [e1] at g1 ⊢
            rw [g1]
            rfl
          · have e0 : e = 0 := by omega
            rw [if_neg (fun y => e1 ((nI_eq (by omega) (by omega)).mp y)), L_0]
            rw [e0] at g1 ⊢
            rw [g1]
            rfl
        · obtain ⟨hR, hd⟩ := ref D2 hi2 ow2 Ps2 s2 hI
          obtain ⟨s3, f1, f2⟩ := r_distance (N := N) (p3 := p3) (e := e) hN ht6 a5 hR hx hp (by omega)
          refine ⟨s3, ?_, Me_t Me_0 (Me_m (Me_of f2) (by decide) (by decide))⟩
          rw [hd, if_neg c3, if_neg (nI_pos (by omega)), if_neg (show ¬ (1 : Int32) < nI e from nI_nlt (a := 1) (by omega) (by decide)), if_neg i10]
          exact f1
      · rcases okn_not (show 2 < 2 ^ 31 by decide) c4 with d | d
        · refine ⟨-1, s, if_pos d, Fm_r, fun D2 hi2 ow2 Ps2 s2 hI => ⟨wrI s2 85 0 0, ?_, Me_0⟩⟩
          rw [(ref D2 hi2 ow2 Ps2 s2 hI).2, if_neg c3, if_pos d, if_pos rfl]
        · have d1 := gt1_of d
          refine ⟨-1, s, ?_, Fm_r, fun D2 hi2 ow2 Ps2 s2 hI => ⟨wrI s2 85 0 0, ?_, Me_0⟩⟩
          · rw [if_neg (show ¬ p4 ≤ 1 from i32_nle.mpr d1), ite_self]
          · rw [(ref D2 hi2 ow2 Ps2 s2 hI).2, if_neg c3, if_pos d1, ite_self, if_pos rfl]
  · refine ⟨-1, s, ?_, Fm_r, fun D2 hi2 ow2 Ps2 s2 hI => ⟨wrI s2 85 0 0, ?_, Me_0⟩⟩
    · unfold F_BP_distance F_BP_distance_38
      rw [rcm_0 h1, if_pos rfl]
      by_cases c0 : okn np p0
      · obtain ⟨t, ht, rfl⟩ := c0
        obtain ⟨a1, a2, a3, a4, a5, a6, a7, a8, a9⟩ := h.2.2.2.2.2.2.2.2 t ht
        rw [c_planAt_t h ht]
        dsimp only [Option.bind_some]
        rw [c_hasPair_f a1 a6 a5 (fun ⟨x, p, y1, y2, y3, y4⟩ => c ⟨t, x, p, ht, y1, y2, rfl, y3, y4⟩)]
        dsimp only [Option.bind_some]
        rw [if_pos rfl]
      · rw [c_planAt_f h c0]
        rfl
    · unfold G_M_distance G_M_distance_30
      rw [r_isPair_n (INV_rps (INV_sc hI (Me_0 (s := s2)))) c, Option.bind_some]
      dsimp only
      rw [if_pos rfl]
end TOP2
