section TOP4
variable {h0 : Nat → pm_C} {B : Nat} {D : Nat → pd} {hi z : Nat} {s : mst} {N np : Nat} {As : Nat → AP} {Ps ow : Nat → Nat}
theorem rps0 {s : mst} (h : RPs s np As) : RPs (wrI s 85 0 0) np As := by
  have hm : Md [] [0] s (wrI s 85 0 0) := Md_f (by decide)
  refine ⟨?_, h.2.1, fun t ht => ⟨(h.2.2 t ht).1, RP_md (h.2.2 t ht).2 hm (by decide)⟩⟩
  rw [hm.2.1 19 (by decide)]
  exact h.1
theorem r_isPair_t2 {s : mst} {t x p : Nat} (h : RPs s np As) (ht : t < np) (hx : x < q_nc (As t)) (hp : p < q_pr (As t) x) : G_M_isPair N s (nI t) (nI x) (nI p) = some (1, s) := r_isPair_t h.1 h.2.1 ht (h.2.2 t ht).1 (h.2.2 t ht).2 hx hp
theorem r_isPair_f2 {s : mst} {t : Nat} {i j : Int32} (h : RPs s np As) (ht : t < np) (c : ¬ ∃ x p, x < q_nc (As t) ∧ p < q_pr (As t) x ∧ i = nI x ∧ j = nI p) : G_M_isPair N s (nI t) i j = some (0, s) := by
  refine r_isPair_n h (fun ⟨t', x, p, y1, y2, y3, y4, y5, y6⟩ => ?_)
  have hn := h.2.1
  have et : t' = t := ((nI_eq (by omega) (by omega)).mp y4).symm
  subst et
  exact c ⟨x, p, y2, y3, y5, y6⟩
theorem r_isCable_t2 {s : mst} {t x : Nat} (h : RPs s np As) (ht : t < np) (hx : x < q_nc (As t)) : G_M_isCable N s (nI t) (nI x) = some (1, s) := r_isCable_t h.1 h.2.1 ht (h.2.2 t ht).1.1.2.2.1 (rp_nc (h.2.2 t ht).2) hx
theorem r_isCable_f2 {s : mst} {t : Nat} {i : Int32} (h : RPs s np As) (ht : t < np) (c : ¬ okn (q_nc (As t)) i) : G_M_isCable N s (nI t) i = some (0, s) := by
  refine r_isCable_n h (fun ⟨t', x, y1, y2, y4, y5⟩ => ?_)
  have hn := h.2.1
  have et : t' = t := ((nI_eq (by omega) (by omega)).mp y4).symm
  subst et
  exact c ⟨x, y2, y5⟩
theorem r_isTest_t {s : mst} {t k : Nat} (h : RPs s np As) (ht : t < np) (hk : k < q_ne (As t)) : G_M_isTest N s (nI t) (nI k) = some (1, s) := by
  have hn := h.2.1
  have hc := (h.2.2 t ht).1.1
  unfold WFc at hc
  unfold G_M_isTest G_M_isTest_29
  rw [r_isPlan_t h.1 h.2.1 ht, Option.bind_some]
  dsimp only
  rw [if_neg i10, rdA_nI (by omega) (by decide), Option.bind_some, rp_ne (h.2.2 t ht).2, r_in_t hk (by omega), Option.bind_some]
  dsimp only
  rw [if_neg i10, if_pos (Or.inr rfl)]
theorem r_isTest_f {s : mst} {p0 p1 : Int32} (h : RPs s np As) (c : ¬ ∃ t k, t < np ∧ k < q_ne (As t) ∧ p0 = nI t ∧ p1 = nI k) : G_M_isTest N s p0 p1 = some (0, s) := by
  have hn := h.2.1
  unfold G_M_isTest G_M_isTest_28 G_M_isTest_29
  by_cases c0 : okn np p0
  · obtain ⟨t, ht, rfl⟩ := c0
    have hc := (h.2.2 t ht).1.1
    unfold WFc at hc
    rw [r_isPlan_t h.1 h.2.1 ht, Option.bind_some]
    dsimp only
    rw [if_neg i10, rdA_nI (by omega) (by decide), Option.bind_some, rp_ne (h.2.2 t ht).2, r_in_f (by omega) (fun ⟨k, hk, e⟩ => c ⟨t, k, ht, hk, rfl, e⟩), Option.bind_some]
    dsimp only
    rw [if_pos rfl, if_pos (Or.inl rfl)]
  · rw [r_isPlan_f h.1 h.2.1 c0, Option.bind_some]
    dsimp only
    rw [if_pos rfl, if_pos (Or.inl rfl)]
theorem t_heard {p0 p1 p3 p4 p5 p6 p7 : Int32} {wet : Nat} (hwet : wet ≤ 1) (hN : 2000 ≤ N) (h : INV D hi ow s np As Ps) : ∃ ans s1, F_BP_heard N (mkM h0 B D hi z s) (B + 0) p0 p1 (nI wet) p3 p4 p5 p6 p7 = some (ans, (mkM h0 B D hi z (s1))) ∧ Fm (fun q => 6 ≤ q ∧ q ≤ 51) s s1 ∧ ∀ s2, RPs s2 np As → ∃ s3, G_M_heard N s2 p0 p1 (nI wet) p3 p4 p5 p6 p7 = some (ans, s3) ∧ Me scK scJ s2 s3 := by
  have h1 := h.1
  by_cases c : okW np As p0 p1
  · obtain ⟨t, w, ht, hw, rfl, rfl⟩ := c
    obtain ⟨a1, a2, a3, a4, a5, a6, a7, a8, a9⟩ := h.2.2.2.2.2.2.2.2 t ht
    have ht6 : t < 6 := by have := h.2.2.2.2.1; omega
    have hpw := pow10 a5.1.2.2.2.2.2.1
    have hG : GW (As t) w (0, 0) wet := ⟨a5, by omega, hwet, Or.inl rfl⟩
    unfold F_BP_heard F_BP_heard_51
    rw [rcm_0 h1, if_pos rfl, c_planWith_t h ht hw]
    dsimp only [Option.bind_some]
    by_cases c2 : ∃ x p, x < q_nc (As t) ∧ p < q_pr (As t) x ∧ p3 = nI x ∧ p4 = nI p
    · obtain ⟨x, p, hx, hp, rfl, rfl⟩ := c2
      have hc := a5.1
      unfold WFc at hc
      have hxx := a5.2.1 x hx
      have hdiv : (8 * x + p) / 8 = x := by omega
      have hmod : (8 * x + p) % 8 = p := by omega
      have hst : q_st (As t) (8 * x + p) := by unfold q_st; rw [hdiv, hmod]; exact ⟨hx, hp⟩
      rw [c_hasPair_t a1 a6 a5 hx hp]
      dsimp only [Option.bind_some]
      rw [if_neg i10]
      by_cases c5 : okn 2 p5
      · obtain ⟨e, he, rfl⟩ := c5
        rw [c_isEnd_t he]
        dsimp only [Option.bind_some]
        rw [if_neg i10]
        by_cases c6 : okn (q_nc (As t)) p6
        · obtain ⟨y, hy, rfl⟩ := c6
          rw [c_hasCable_t a1 a6 a5 hy]
          dsimp only [Option.bind_some]
          rw [if_neg i10]
          by_cases c7 : okn 2 p7
          · obtain ⟨e', he', rfl⟩ := c7
            rw [c_isEnd_t he']
            dsimp only [Option.bind_some]
            rw [if_neg i10]
            obtain ⟨s1, l1, l2, l3⟩ := c_lay (N := N) (h0 := h0) (B := B) (z := z) (w := w) (by omega) h1 a1 a5 a6 a3 a4 (by omega)
            obtain ⟨s1', m1, m2, m3⟩ := c_send (N := N) (h0 := h0) (B := B) (z := z) (by omega) h1 hG (Or.inl rfl) a3 a4 l3 hst he
            obtain ⟨v, v1, v2⟩ := m3 y e' hy he'
            refine ⟨nI v, s1', ?_, Fm_t (Fm_m l2 (fun q hq => by unfold KL at hq; omega)) (Fm_m m2 (fun q hq => by omega)), fun s2 hI => ?_⟩
            · rw [rdm_0_3 h1]
              dsimp only [Option.bind_some]
              rw [rdm_5_0 h1]
              dsimp only [Option.bind_some]
              rw [l1]
              dsimp only [Option.bind_some]
              rw [rdm_0_3 h1]
              dsimp only [Option.bind_some]
              rw [rdm_5_1 h1]
              dsimp only [Option.bind_some]
              rw [rdm_5_0 h1]
              dsimp only [Option.bind_some]
              rw [c_siteOf]
              dsimp only [Option.bind_some]
              rw [m1]
              dsimp only [Option.bind_some]
              rw [rdm_0_3 h1]
              dsimp only [Option.bind_some]
              rw [rdm_5_1 h1]
              dsimp only [Option.bind_some]
              rw [c_comesTo h1 (by omega) he', v1]
              rfl
            · have i1 := rps0 hI
              have i2 := (i1.2.2 t ht).2
              obtain ⟨s3, f1, f2, f3⟩ := r_lay (N := N) (by omega) ht6 hG i2
              have R3 : RP s3 t (As t) := RP_md i2 f3 (by decide)
              obtain ⟨r', s4, g1, g2, g3⟩ := r_heardAt (N := N) (by omega) ht6 hG R3 f2 hx hp he hy he'
              refine ⟨s4, ?_, Me_t Me_0 (Me_t (Me_m (Me_of f3) (by decide) (by decide)) (Me_m (Me_of g2) (by decide) (by decide)))⟩
              unfold G_M_heard
              rw [r_isWorld_t i1 ht hw, Option.bind_some]
              dsimp only
              rw [if_neg i10, r_isPair_t2 i1 ht hx hp, Option.bind_some]
              dsimp only
              rw [if_neg i10, r_isEnd_t he, Option.bind_some]
              dsimp only
              rw [if_neg i10, r_isCable_t2 i1 ht hy, Option.bind_some]
              dsimp only
              rw [if_neg i10, r_isEnd_t he', Option.bind_some]
              dsimp only
              rw [if_neg i10, f1, Option.bind_some, g1, Option.bind_some, HB_u v2 g3]
          · refine ⟨-1, s, ?_, Fm_r, fun s2 hI => ⟨wrI s2 85 0 0, ?_, Me_0⟩⟩
            · rw [c_isEnd_f c7]
              dsimp only [Option.bind_some]
              rw [if_pos rfl]
            · have i1 := rps0 hI
              unfold G_M_heard G_M_heard_52
              rw [r_isWorld_t i1 ht hw, Option.bind_some]
              dsimp only
              rw [if_neg i10, r_isPair_t2 i1 ht hx hp, Option.bind_some]
              dsimp only
              rw [if_neg i10, r_isEnd_t he, Option.bind_some]
              dsimp only
              rw [if_neg i10, r_isCable_t2 i1 ht hy, Option.bind_some]
              dsimp only
              rw [if_neg i10, r_isEnd_f c7, Option.bind_some]
              dsimp only
              rw [if_pos rfl]
        · refine ⟨-1, s, ?_, Fm_r, fun s2 hI => ⟨wrI s2 85 0 0, ?_, Me_0⟩⟩
          · rw [c_hasCable_f a1 a6 a5 c6]
            dsimp only [Option.bind_some]
            rw [if_pos rfl]
          · have i1 := rps0 hI
            unfold G_M_heard G_M_heard_52
            rw [r_isWorld_t i1 ht hw, Option.bind_some]
            dsimp only
            rw [if_neg i10, r_isPair_t2 i1 ht hx hp, Option.bind_some]
            dsimp only
            rw [if_neg i10, r_isEnd_t he, Option.bind_some]
            dsimp only
            rw [if_neg i10, r_isCable_f2 i1 ht c6, Option.bind_some]
            dsimp only
            rw [if_pos rfl]
      · refine ⟨-1, s, ?_, Fm_r, fun s2 hI => ⟨wrI s2 85 0 0, ?_, Me_0⟩⟩
        · rw [c_isEnd_f c5]
          dsimp only [Option.bind_some]
          rw [if_pos rfl]
        · have i1 := rps0 hI
          unfold G_M_heard G_M_heard_52
          rw [r_isWorld_t i1 ht hw, Option.bind_some]
          dsimp only
          rw [if_neg i10, r_isPair_t2 i1 ht hx hp, Option.bind_some]
          dsimp only
          rw [if_neg i10, r_isEnd_f c5, Option.bind_some]
          dsimp only
          rw [if_pos rfl]
    · refine ⟨-1, s, ?_, Fm_r, fun s2 hI => ⟨wrI s2 85 0 0, ?_, Me_0⟩⟩
      · rw [c_hasPair_f a1 a6 a5 c2]
        dsimp only [Option.bind_some]
        rw [if_pos rfl]
      · have i1 := rps0 hI
        unfold G_M_heard G_M_heard_52
        rw [r_isWorld_t i1 ht hw, Option.bind_some]
        dsimp only
        rw [if_neg i10, r_isPair_f2 i1 ht c2, Option.bind_some]
        dsimp only
        rw [if_pos rfl]
  · refine ⟨-1, s, ?_, Fm_r, fun s2 hI => ⟨wrI s2 85 0 0, ?_, Me_0⟩⟩
    · unfold F_BP_heard F_BP_heard_51
      rw [rcm_0 h1, if_pos rfl, c_planWith_f h c]
      rfl
    · unfold G_M_heard G_M_heard_52
      rw [r_isWorld_n (rps0 hI) c, Option.bind_some]
      dsimp only
      rw [if_pos rfl]
theorem t_fed {p0 p1 p3 : Int32} {wet : Nat} (hwet : wet ≤ 1) (hN : 2000 ≤ N) (h : INV D hi ow s np As Ps) : ∃ ans s1, F_BP_fed N (mkM h0 B D hi z s) (B + 0) p0 p1 (nI wet) p3 = some (ans, (mkM h0 B D hi z (s1))) ∧ Fm (fun q => 6 ≤ q ∧ q ≤ 51) s s1 ∧ ∀ s2, RPs s2 np As → ∃ s3, G_M_fed N s2 p0 p1 (nI wet) p3 = some (ans, s3) ∧ Me scK scJ s2 s3 := by
  have h1 := h.1
  by_cases c : okW np As p0 p1
  · obtain ⟨t, w, ht, hw, rfl, rfl⟩ := c
    obtain ⟨a1, a2, a3, a4, a5, a6, a7, a8, a9⟩ := h.2.2.2.2.2.2.2.2 t ht
    have ht6 : t < 6 := by have := h.2.2.2.2.1; omega
    have hpw := pow10 a5.1.2.2.2.2.2.1
    have hG : GW (As t) w (0, 0) wet := ⟨a5, by omega, hwet, Or.inl rfl⟩
    obtain ⟨s1, l1, l2, l3⟩ := c_lay (N := N) (h0 := h0) (B := B) (z := z) (w := w) (by omega) h1 a1 a5 a6 a3 a4 (by omega)
    have C1 : CP s1 (Ps t) (As t) := CP_fm a6 l2 (fun q q1 q2 => by unfold KL; omega)
    have L2 : Fm (fun q => 6 ≤ q ∧ q ≤ 51) s s1 := Fm_m l2 (fun q hq => by unfold KL at hq; omega)
    unfold F_BP_fed F_BP_fed_66
    rw [rcm_0 h1, if_pos rfl, c_planWith_t h ht hw]
    dsimp only [Option.bind_some]
    rw [rdm_0_3 h1]
    dsimp only [Option.bind_some]
    rw [rdm_5_0 h1]
    dsimp only [Option.bind_some]
    rw [l1]
    dsimp only [Option.bind_some]
    rw [rdm_0_3 h1]
    dsimp only [Option.bind_some]
    rw [rdm_5_0 h1]
    dsimp only [Option.bind_some]
    by_cases c3 : okn 10 p3
    · obtain ⟨j, hj, rfl⟩ := c3
      rw [c_homeOf h1 a5 l3 a4 hj]
      dsimp only [Option.bind_some]
      by_cases ch : q_hm (As t) w j = 0
      · rw [ch, cd_0]
        refine ⟨-1, s1, by rw [if_pos rfl], L2, fun s2 hI => ?_⟩
        have i1 := rps0 hI
        have i2 := (i1.2.2 t ht).2
        obtain ⟨s3, f1, f2, f3⟩ := r_lay (N := N) (by omega) ht6 hG i2
        refine ⟨s3, ?_, Me_t Me_0 (Me_m (Me_of f3) (by decide) (by decide))⟩
        unfold G_M_fed G_M_fed_67
        rw [r_isWorld_t i1 ht hw, Option.bind_some]
        dsimp only
        rw [if_neg i10, r_isHouse_t hj, Option.bind_some]
        dsimp only
        rw [if_neg i10, f1, Option.bind_some, r_hangsAt (by omega) a5 f2 hj, Option.bind_some]
        dsimp only
        rw [ch, r6_0, cd_0, if_pos rfl]
      · obtain ⟨u, hu⟩ : ∃ u, q_hm (As t) w j = u + 1 := ⟨q_hm (As t) w j - 1, by omega⟩
        have hus := (q_hg_st a5 ((q_hm_s a5).mp hu)).1
        have hul := q_st_lt a5 hus
        rw [hu, cd_s]
        obtain ⟨v, s1', m1, m2, m3⟩ := c_feedersOf (N := N) (h0 := h0) (B := B) (z := z) (by omega) h1 a1 hG (Or.inl rfl) a3 a4 C1 l3 hus
        refine ⟨lN v, s1', ?_, Fm_t L2 (Fm_m m2 (fun q hq => by omega)), fun s2 hI => ?_⟩
        · rw [if_neg (nI_n1 (by omega)), rdm_0_3 h1]
          dsimp only [Option.bind_some]
          rw [m1]
          rfl
        · have i1 := rps0 hI
          have i2 := (i1.2.2 t ht).2
          obtain ⟨s3, f1, f2, f3⟩ := r_lay (N := N) (by omega) ht6 hG i2
          have R3 : RP s3 t (As t) := RP_md i2 f3 (by decide)
          obtain ⟨v', s4, g1, g2, g3⟩ := r_feeds (N := N) (by omega) ht6 hG R3 f2 hus.1 hus.2
          rw [show 8 * (u / 8) + u % 8 = u by omega] at g3
          refine ⟨s4, ?_, Me_t Me_0 (Me_t (Me_m (Me_of f3) (by decide) (by decide)) (Me_m (Me_of g2) (by decide) (by decide)))⟩
          unfold G_M_fed G_M_fed_67
          rw [r_isWorld_t i1 ht hw, Option.bind_some]
          dsimp only
          rw [if_neg i10, r_isHouse_t hj, Option.bind_some]
          dsimp only
          rw [if_neg i10, f1, Option.bind_some, r_hangsAt (by omega) a5 f2 hj, Option.bind_some]
          dsimp only
          rw [hu, r6_s, cd_s, if_neg (nI_n1 (by omega)), L_6, pk_rem (by omega) (by omega) (by omega), pk_div (by omega) (by omega) (by omega), show (6 * (u / 8) + u % 8) / 6 = u / 8 by omega, show (6 * (u / 8) + u % 8) % 6 = u % 8 by omega, g1, Option.bind_some, FD_u m3 g3]
    · refine ⟨-1, s1, ?_, L2, fun s2 hI => ⟨wrI s2 85 0 0, ?_, Me_0⟩⟩
      · rw [c_homeOf_n h1 l3 a4 c3]
        dsimp only [Option.bind_some]
        rw [if_pos rfl]
      · have i1 := rps0 hI
        unfold G_M_fed G_M_fed_22
        rw [r_isWorld_t i1 ht hw, Option.bind_some]
        dsimp only
        rw [if_neg i10, r_isHouse_f c3, Option.bind_some]
        dsimp only
        rw [if_pos rfl]
  · refine ⟨-1, s, ?_, Fm_r, fun s2 hI => ⟨wrI s2 85 0 0, ?_, Me_0⟩⟩
    · unfold F_BP_fed
      rw [rcm_0 h1, if_pos rfl, c_planWith_f h c]
      rfl
    · unfold G_M_fed G_M_fed_22
      rw [r_isWorld_n (rps0 hI) c, Option.bind_some]
      dsimp only
      rw [if_pos rfl]
theorem t_served {p0 p1 : Int32} {wet : Nat} (hwet : wet ≤ 1) (hN : 2000 ≤ N) (h : INV D hi ow s np As Ps) : ∃ ans s1, F_BP_served N (mkM h0 B D hi z s) (B + 0) p0 p1 (nI wet) = some (ans, (mkM h0 B D hi z (s1))) ∧ Fe (fun q => 6 ≤ q ∧ q ≤ 51) s s1 ∧ ∀ s2, RPs s2 np As → ∃ s3, G_M_served N s2 p0 p1 (nI wet) = some (ans, s3) ∧ Me scK scJ s2 s3 := by
  have h1 := h.1
  by_cases c : okW np As p0 p1
  · obtain ⟨t, w, ht, hw, rfl, rfl⟩ := c
    obtain ⟨a1, a2, a3, a4, a5, a6, a7, a8, a9⟩ := h.2.2.2.2.2.2.2.2 t ht
    have ht6 : t < 6 := by have := h.2.2.2.2.1; omega
    have hpw := pow10 a5.1.2.2.2.2.2.1
    have hG : GW (As t) w (0, 0) wet := ⟨a5, by omega, hwet, Or.inl rfl⟩
    obtain ⟨s1, l1, l2, l3⟩ := c_lay (N := N) (h0 := h0) (B := B) (z := z) (w := w) (by omega) h1 a1 a5 a6 a3 a4 (by omega)
    have C1 : CP s1 (Ps t) (As t) := CP_fm a6 l2 (fun q q1 q2 => by unfold KL; omega)
    obtain ⟨v, s1', m1, m2, m3⟩ := c_served (N := N) (h0 := h0) (B := B) (z := z) (by omega) h1 a1 hG (Or.inl rfl) a3 a4 C1 l3
    refine ⟨nI v, s1', ?_, Fe_t (Fe_m (Fe_of l2) (fun q hq => by unfold KL at hq; omega)) (Fe_m m2 (fun q hq => by omega)), fun s2 hI => ?_⟩
    · unfold F_BP_served
      rw [rcm_0 h1, if_pos rfl, c_planWith_t h ht hw]
      dsimp only [Option.bind_some]
      rw [rdm_0_3 h1]
      dsimp only [Option.bind_some]
      rw [rdm_5_0 h1]
      dsimp only [Option.bind_some]
      rw [l1]
      dsimp only [Option.bind_some]
      rw [rdm_0_3 h1]
      dsimp only [Option.bind_some]
      rw [m1]
      rfl
    · have i1 := rps0 hI
      have i2 := (i1.2.2 t ht).2
      obtain ⟨s3, f1, f2, f3⟩ := r_lay (N := N) (by omega) ht6 hG i2
      have R3 : RP s3 t (As t) := RP_md i2 f3 (by decide)
      obtain ⟨v', s4, g1, g2, g3⟩ := r_served (N := N) (by omega) ht6 hG R3 f2
      refine ⟨s4, ?_, Me_t Me_0 (Me_t (Me_m (Me_of f3) (by decide) (by decide)) (Me_m g2 (by decide) (by decide)))⟩
      unfold G_M_served
      rw [r_isWorld_t i1 ht hw, Option.bind_some]
      dsimp only
      rw [if_neg i10, f1, Option.bind_some, g1, SV_u m3 g3]
  · refine ⟨-1, s, ?_, fun _ _ => rfl, fun s2 hI => ⟨wrI s2 85 0 0, ?_, Me_0⟩⟩
    · unfold F_BP_served
      rw [rcm_0 h1, if_pos rfl, c_planWith_f h c]
      rfl
    · unfold G_M_served
      rw [r_isWorld_n (rps0 hI) c, Option.bind_some]
      dsimp only
      rw [if_pos rfl]
theorem c_hearing_n {w wet P : Nat} {A : AP} {b : Nat × Nat} {i : Int32} (hf : FX D hi) (hA : WF A) (hPb : P + 30 < 2 ^ 31) (h : CW D hi s A w b P) (hn : ∀ j, j < 10 → i = nI j → q_hm A w j = 0) : F_Bench_housesHearing N (mkM h0 B D hi z s) (B + 5) i (nI wet) = some (-1, (mkM h0 B D hi z s)) := by
  unfold F_Bench_housesHearing
  rw [rcm_5 hf, if_pos rfl, rdm_5_0 hf]
  dsimp only [Option.bind_some]
  by_cases c : okn 10 i
  · obtain ⟨j, hj, rfl⟩ := c
    rw [c_homeOf hf hA h hPb hj, hn j hj rfl, cd_0]
    dsimp only [Option.bind_some]
    rw [if_pos rfl]
  · rw [c_homeOf_n hf h hPb c]
    dsimp only [Option.bind_some]
    rw [if_pos rfl]
theorem t_neighbours {p0 p1 p3 : Int32} {wet : Nat} (hwet : wet ≤ 1) (hN : 2000 ≤ N) (h : INV D hi ow s np As Ps) : ∃ ans s1, F_BP_neighbours N (mkM h0 B D hi z s) (B + 0) p0 p1 (nI wet) p3 = some (ans, (mkM h0 B D hi z (s1))) ∧ Fm (fun q => 6 ≤ q ∧ q ≤ 51) s s1 ∧ ∀ s2, RPs s2 np As → ∃ s3, G_M_neighbours N s2 p0 p1 (nI wet) p3 = some (ans, s3) ∧ Me scK scJ s2 s3 := by
  have h1 := h.1
  by_cases c : okW np As p0 p1
  · obtain ⟨t, w, ht, hw, rfl, rfl⟩ := c
    obtain ⟨a1, a2, a3, a4, a5, a6, a7, a8, a9⟩ := h.2.2.2.2.2.2.2.2 t ht
    have ht6 : t < 6 := by have := h.2.2.2.2.1; omega
    have hpw := pow10 a5.1.2.2.2.2.2.1
    have hG : GW (As t) w (0, 0) wet := ⟨a5, by omega, hwet, Or.inl rfl⟩
    obtain ⟨s1, l1, l2, l3⟩ := c_lay (N := N) (h0 := h0) (B := B) (z := z) (w := w) (by omega) h1 a1 a5 a6 a3 a4 (by omega)
    have L2 : Fm (fun q => 6 ≤ q ∧ q ≤ 51) s s1 := Fm_m l2 (fun q hq => by unfold KL at hq; omega)
    unfold F_BP_neighbours
    rw [rcm_0 h1, if_pos rfl, c_planWith_t h ht hw]
    dsimp only [Option.bind_some]
    rw [rdm_0_3 h1]
    dsimp only [Option.bind_some]
    rw [rdm_5_0 h1]
    dsimp only [Option.bind_some]
    rw [l1]
    dsimp only [Option.bind_some]
    rw [rdm_0_3 h1]
    dsimp only [Option.bind_some]
    by_cases c3 : okn 10 p3
    · obtain ⟨j, hj, rfl⟩ := c3
      by_cases ch : q_hm (As t) w j = 0
      · refine ⟨-1, s1, ?_, L2, fun s2 hI => ?_⟩
        · rw [c_hearing_n h1 a5 a4 l3 (fun j' hj' e => by rw [← (nI_eq (by omega) (by omega)).mp e]; exact ch)]
          rfl
        · have i1 := rps0 hI
          have i2 := (i1.2.2 t ht).2
          obtain ⟨s3, f1, f2, f3⟩ := r_lay (N := N) (by omega) ht6 hG i2
          refine ⟨s3, ?_, Me_t Me_0 (Me_m (Me_of f3) (by decide) (by decide))⟩
          unfold G_M_neighbours
          rw [r_isWorld_t i1 ht hw, Option.bind_some]
          dsimp only
          rw [if_neg i10, r_isHouse_t hj, Option.bind_some]
          dsimp only
          rw [if_neg i10, f1, Option.bind_some, r_hangsAt (by omega) a5 f2 hj, Option.bind_some]
          dsimp only
          rw [ch, r6_0, cd_0, if_pos rfl]
      · obtain ⟨u, hu⟩ : ∃ u, q_hm (As t) w j = u + 1 := ⟨q_hm (As t) w j - 1, by omega⟩
        have hus := (q_hg_st a5 ((q_hm_s a5).mp hu)).1
        have hul := q_st_lt a5 hus
        obtain ⟨v, s1', m1, m2, m3⟩ := c_hearing (N := N) (h0 := h0) (B := B) (z := z) (by omega) h1 a1 hG (Or.inl rfl) a3 a4 l3 hj hu
        refine ⟨nI v, s1', ?_, Fm_t L2 (Fm_m m2 (fun q hq => by omega)), fun s2 hI => ?_⟩
        · rw [m1]
          rfl
        · have i1 := rps0 hI
          have i2 := (i1.2.2 t ht).2
          obtain ⟨s3, f1, f2, f3⟩ := r_lay (N := N) (by omega) ht6 hG i2
          have R3 : RP s3 t (As t) := RP_md i2 f3 (by decide)
          have hfar := r_far (N := N) (by omega) ht6 hG R3 f2 hus.1 hus.2
          obtain ⟨s4, g1, g2, g3⟩ := r_sound (N := N) (by omega) ht6 hG R3 f2 (q_nd_ok hG (e := 1) hus)
          have R4 : RP s4 t (As t) := RP_md R3 g2 (by decide)
          have W4 : RW s4 t (As t) w (0, 0) wet := RW_md f2 g2 (by decide) (by decide)
          obtain ⟨v', k1, k2⟩ := r_neigh (N := N) (by omega) ht6 hG R4 W4 hj g3
          rw [show 8 * (u / 8) + u % 8 = u by omega] at hfar
          refine ⟨s4, ?_, Me_t Me_0 (Me_t (Me_m (Me_of f3) (by decide) (by decide)) (Me_m (Me_of g2) (by decide) (by decide)))⟩
          unfold G_M_neighbours
          rw [r_isWorld_t i1 ht hw, Option.bind_some]
          dsimp only
          rw [if_neg i10, r_isHouse_t hj, Option.bind_some]
          dsimp only
          rw [if_neg i10, f1, Option.bind_some, r_hangsAt (by omega) a5 f2 hj, Option.bind_some]
          dsimp only
          rw [hu, r6_s, cd_s, if_neg (nI_n1 (by omega)), L_6, pk_rem (by omega) (by omega) (by omega), pk_div (by omega) (by omega) (by omega), show (6 * (u / 8) + u % 8) / 6 = u / 8 by omega, show (6 * (u / 8) + u % 8) % 6 = u % 8 by omega, hfar, Option.bind_some]
          dsimp only
          rw [g1, Option.bind_some, k1, NB_u m3 k2]
    · refine ⟨-1, s1, ?_, L2, fun s2 hI => ⟨wrI s2 85 0 0, ?_, Me_0⟩⟩
      · rw [c_hearing_n h1 a5 a4 l3 (fun j' hj' e => absurd ⟨j', hj', e⟩ c3)]
        rfl
      · have i1 := rps0 hI
        unfold G_M_neighbours G_M_neighbours_22
        rw [r_isWorld_t i1 ht hw, Option.bind_some]
        dsimp only
        rw [if_neg i10, r_isHouse_f c3, Option.bind_some]
        dsimp only
        rw [if_pos rfl]
  · refine ⟨-1, s, ?_, Fm_r, fun s2 hI => ⟨wrI s2 85 0 0, ?_, Me_0⟩⟩
    · unfold F_BP_neighbours
      rw [rcm_0 h1, if_pos rfl, c_planWith_f h c]
      rfl
    · unfold G_M_neighbours G_M_neighbours_22
      rw [r_isWorld_n (rps0 hI) c, Option.bind_some]
      dsimp only
      rw [if_pos rfl]
end TOP4
