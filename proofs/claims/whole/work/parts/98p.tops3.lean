section TOP3
variable {h0 : Nat → pm_C} {B : Nat} {D : Nat → pd} {hi z : Nat} {s : mst} {N np : Nat} {As : Nat → AP} {Ps ow : Nat → Nat}
theorem c_isEnd_t {S : pm_S} {e : Nat} (he : e < 2) : F_BP_isEnd N S (nI e) = some (1, S) := by
  unfold F_BP_isEnd F_BP_isEnd_9 F_BP_isEnd_14
  by_cases c : e = 0
  · rw [if_pos (by rw [c]; rfl), if_pos (Or.inr rfl)]
  · rw [if_neg (nI_ne0 (by omega) (by omega)), if_pos (show nI e = 1 by rw [show e = 1 by omega]; rfl), if_pos (Or.inr rfl)]
theorem c_isEnd_f {S : pm_S} {p : Int32} (h : ¬ okn 2 p) : F_BP_isEnd N S p = some (0, S) := by
  unfold F_BP_isEnd F_BP_isEnd_14
  rw [if_neg (show ¬ p = 0 from fun e => h ⟨0, by omega, e⟩), if_neg (show ¬ p = 1 from fun e => h ⟨1, by omega, e⟩), if_pos (Or.inl rfl)]
theorem t_metres {p0 p1 p3 p4 p5 : Int32} {wet : Nat} (hwet : wet ≤ 1) (hN : 2000 ≤ N) (h : INV D hi ow s np As Ps) : ∃ ans s1, F_BP_metres N (mkM h0 B D hi z s) (B + 0) p0 p1 (nI wet) p3 p4 p5 = some (ans, (mkM h0 B D hi z (s1))) ∧ Fm (fun q => 6 ≤ q ∧ q ≤ 51) s s1 ∧ ∀ D2 hi2 ow2 Ps2 s2, INV D2 hi2 ow2 s2 np As Ps2 → ∃ s3, G_M_metres N s2 p0 p1 (nI wet) p3 p4 p5 = some (ans, s3) ∧ Me scK scJ s2 s3 := by
  have h1 := h.1
  by_cases c : okW np As p0 p1
  · obtain ⟨t, w, ht, hw, rfl, rfl⟩ := c
    obtain ⟨a1, a2, a3, a4, a5, a6, a7, a8, a9⟩ := h.2.2.2.2.2.2.2.2 t ht
    have ht6 : t < 6 := by have := h.2.2.2.2.1; omega
    have hpw := pow10 a5.1.2.2.2.2.2.1
    have hG : GW (As t) w (0, 0) wet := ⟨a5, by omega, hwet, Or.inl rfl⟩
    have ref : ∀ D2 hi2 ow2 Ps2 s2, INV D2 hi2 ow2 s2 np As Ps2 → INV D2 hi2 ow2 (wrI s2 85 0 0) np As Ps2 ∧ RP (wrI s2 85 0 0) t (As t) ∧ G_M_isWorld N (wrI s2 85 0 0) (nI t) (nI w) = some (1, wrI s2 85 0 0) := by
      intro D2 hi2 ow2 Ps2 s2 hI
      have hI' := INV_sc hI (Me_0 (s := s2))
      exact ⟨hI', ((INV_rps hI').2.2 t ht).2, r_isWorld_t (INV_rps hI') ht hw⟩
    unfold F_BP_metres F_BP_metres_33
    rw [rcm_0 h1, if_pos rfl, c_planWith_t h ht hw]
    dsimp only [Option.bind_some]
    by_cases c2 : ∃ x p, x < q_nc (As t) ∧ p < q_pr (As t) x ∧ p3 = nI x ∧ p4 = nI p
    · obtain ⟨x, p, hx, hp, rfl, rfl⟩ := c2
      have hc := a5.1
      unfold WFc at hc
      have hxx := a5.2.1 x hx
      have hdiv : (8 * x + p) / 8 = x := by omega
      have hmod : (8 * x + p) % 8 = p := by omega
      have hst : q_st (As t) (8 * x + p) := by unfold q_st; rw [hdiv, hmod]; exact ⟨hx, hp⟩
      rw [c_hasPair_t a1 a6 a5 hx hp]
      dsimp only [Option.bind_some]
      rw [if_neg i10]
      by_cases c5 : okn 2 p5
      · obtain ⟨e, he, rfl⟩ := c5
        obtain ⟨s1, l1, l2, l3⟩ := c_lay (N := N) (h0 := h0) (B := B) (z := z) (w := w) (by omega) h1 a1 a5 a6 a3 a4 (by omega)
        have C1 : CP s1 (Ps t) (As t) := CP_fm a6 l2 (fun q q1 q2 => by unfold KL; omega)
        obtain ⟨r, m1, m2⟩ := c_measure (N := N) (h0 := h0) (B := B) (z := z) (by omega) h1 a1 hG (Or.inl rfl) a4 C1 l3 hst he
        refine ⟨nI r, s1, ?_, Fm_m l2 (fun q hq => by unfold KL at hq; omega), fun D2 hi2 ow2 Ps2 s2 hI => ?_⟩
        · rw [c_isEnd_t he]
          dsimp only [Option.bind_some]
          rw [if_neg i10, rdm_0_3 h1]
          dsimp only [Option.bind_some]
          rw [rdm_5_0 h1]
          dsimp only [Option.bind_some]
          rw [l1]
          dsimp only [Option.bind_some]
          rw [rdm_0_3 h1]
          dsimp only [Option.bind_some]
          rw [rdm_5_0 h1]
          dsimp only [Option.bind_some]
          rw [c_siteOf]
          dsimp only [Option.bind_some]
          rw [m2]
          rfl
        · obtain ⟨i1, i2, i3⟩ := ref D2 hi2 ow2 Ps2 s2 hI
          obtain ⟨s3, f1, f2, f3⟩ := r_lay (N := N) (by omega) ht6 hG i2
          have R3 : RP s3 t (As t) := RP_md i2 f3 (by decide)
          obtain ⟨r', g1, g2⟩ := r_metresAt (N := N) (by omega) ht6 hG R3 f2 hst he
          rw [hdiv, hmod] at g2
          refine ⟨s3, ?_, Me_t Me_0 (Me_m (Me_of f3) (by decide) (by decide))⟩
          unfold G_M_metres
          rw [i3, Option.bind_some]
          dsimp only
          rw [if_neg i10, r_isPair_t i1.2.2.2.2.2.1 i1.2.2.2.2.1 ht a5 i2 hx hp, Option.bind_some]
          dsimp only
          rw [if_neg i10, r_isEnd_t he, Option.bind_some]
          dsimp only
          rw [if_neg i10, f1, Option.bind_some, g2, Option.bind_some, MT_u m1 g1]
      · refine ⟨-1, s, ?_, Fm_r, fun D2 hi2 ow2 Ps2 s2 hI => ⟨wrI s2 85 0 0, ?_, Me_0⟩⟩
        · rw [c_isEnd_f c5]
          dsimp only [Option.bind_some]
          rw [if_pos rfl]
        · obtain ⟨i1, i2, i3⟩ := ref D2 hi2 ow2 Ps2 s2 hI
          unfold G_M_metres G_M_metres_34
          rw [i3, Option.bind_some]
          dsimp only
          rw [if_neg i10, r_isPair_t i1.2.2.2.2.2.1 i1.2.2.2.2.1 ht a5 i2 hx hp, Option.bind_some]
          dsimp only
          rw [if_neg i10, r_isEnd_f c5, Option.bind_some]
          dsimp only
          rw [if_pos rfl]
    · refine ⟨-1, s, ?_, Fm_r, fun D2 hi2 ow2 Ps2 s2 hI => ⟨wrI s2 85 0 0, ?_, Me_0⟩⟩
      · rw [c_hasPair_f a1 a6 a5 c2]
        dsimp only [Option.bind_some]
        rw [if_pos rfl]
      · obtain ⟨i1, i2, i3⟩ := ref D2 hi2 ow2 Ps2 s2 hI
        unfold G_M_metres G_M_metres_34
        rw [i3, Option.bind_some]
        dsimp only
        rw [if_neg i10, r_isPair_n (INV_rps i1) (fun ⟨t', x, p, y1, y2, y3, y4, y5, y6⟩ => by
          have et : t' = t := ((nI_eq (by omega) (by have := h.2.2.2.2.1; omega)).mp y4).symm
          subst et
          exact c2 ⟨x, p, y2, y3, y5, y6⟩), Option.bind_some]
        dsimp only
        rw [if_pos rfl]
  · refine ⟨-1, s, ?_, Fm_r, fun D2 hi2 ow2 Ps2 s2 hI => ⟨wrI s2 85 0 0, ?_, Me_0⟩⟩
    · unfold F_BP_metres F_BP_metres_33
      rw [rcm_0 h1, if_pos rfl, c_planWith_f h c]
      rfl
    · unfold G_M_metres G_M_metres_34
      rw [r_isWorld_n (INV_rps (INV_sc hI (Me_0 (s := s2)))) c, Option.bind_some]
      dsimp only
      rw [if_pos rfl]
end TOP3
