section TOP7
variable {h0 : Nat → pm_C} {B : Nat} {D : Nat → pd} {hi z : Nat} {s : mst} {N np : Nat} {As : Nat → AP} {Ps ow : Nat → Nat} {P L : Nat} {bt : Nat → Nat} {eb : Nat}
theorem t_joint {p0 p1 p2 : Int32} (hN : 2000 ≤ N) (h : INV D hi ow s np As Ps) : ∃ ans s1, F_BP_joint N (mkM h0 B D hi z s) (B + 0) p0 p1 p2 = some (ans, (mkM h0 B D hi z (s1))) ∧ Fe (fun q => (5 ≤ q ∧ q ≤ 52) ∨ (54 ≤ q ∧ q ≤ 57)) s s1 ∧ ∀ s2, RPs s2 np As → ∃ s3, G_M_joint N s2 p0 p1 p2 = some (ans, s3) ∧ Me scK scJ s2 s3 := by
  have h1 := h.1
  by_cases c0 : okn np p0
  · obtain ⟨t, ht, rfl⟩ := c0
    obtain ⟨a1, a2, a3, a4, a5, a6, a7, a8, a9⟩ := h.2.2.2.2.2.2.2.2 t ht
    have ht6 : t < 6 := by have := h.2.2.2.2.1; omega
    have hG : GW (As t) 0 (0, 0) 0 := ⟨a5, by omega, by omega, Or.inl rfl⟩
    by_cases c2 : ∃ x p, x < q_nc (As t) ∧ p < q_pr (As t) x ∧ p1 = nI x ∧ p2 = nI p
    · obtain ⟨x, p, hx, hp, rfl, rfl⟩ := c2
      have hc := a5.1
      unfold WFc at hc
      have hxx := a5.2.1 x hx
      have e11 := (a6.2.1.2.2.1 (8 * x + p) (by omega)).1
      refine ⟨cd (q_on (As t) 0 (8 * x + p)), s, ?_, fun _ _ => rfl, fun s2 hI => ?_⟩
      · unfold F_BP_joint
        rw [rcm_0 h1, if_pos rfl, c_planAt_t h ht]
        dsimp only [Option.bind_some]
        rw [c_hasPair_t a1 a6 a5 hx hp]
        dsimp only [Option.bind_some]
        rw [if_neg i10, pl_5 a1]
        dsimp only [Option.bind_some]
        rw [yt_0 (pl_T10 a1)]
        dsimp only [Option.bind_some]
        rw [c_siteOf]
        dsimp only [Option.bind_some]
        rw [ar_v (pl_T10 a1).2.2.1, vat_nI (by omega) (by decide), e11]
        rfl
      · have i1 := rps0 hI
        have i2 := (i1.2.2 t ht).2
        obtain ⟨s3, f1, f2, f3⟩ := r_lay (N := N) (by omega) ht6 hG i2
        have f1' : G_M_lay N (wrI s2 85 0 0) (nI t) 0 0 = some s3 := f1
        refine ⟨s3, ?_, Me_t Me_0 (Me_m (Me_of f3) (by decide) (by decide))⟩
        have e6 : s8 (6 * x + p) = 8 * x + p := by unfold s8; omega
        have e106 := (f2.2.2.2.2.2.1 (6 * x + p) (by omega)).1
        rw [e6] at e106
        have e106' : s3.1 106 (6 * x + p) = cd (r6 (q_on (As t) 0 (8 * x + p))) := e106
        unfold G_M_joint G_M_joint_61
        rw [r_isPair_t2 i1 ht hx hp, Option.bind_some]
        dsimp only
        rw [if_neg i10, f1', Option.bind_some, L_6, nI_mul, nI_add, rdA_nI (by omega) (by decide), Option.bind_some, e106']
        cases hv : q_on (As t) 0 (8 * x + p) with
        | zero => rw [r6_0, cd_0, if_pos rfl]
        | succ y =>
          have hy := q_st_lt a5 (q_on_st a5 hv).2.1
          rw [r6_s, cd_s, if_neg (nI_n1 (by omega)), pk_rem (by omega) (by omega) (by omega), pk_div (by omega) (by omega) (by omega), show (6 * (y / 8) + y % 8) / 6 = y / 8 by omega, show (6 * (y / 8) + y % 8) % 6 = y % 8 by omega, L_8, nI_mul, nI_add, cd_s, show 8 * (y / 8) + y % 8 = y by omega]
    · refine ⟨-1, s, ?_, fun _ _ => rfl, fun s2 hI => ⟨wrI s2 85 0 0, ?_, Me_0⟩⟩
      · unfold F_BP_joint F_BP_joint_22
        rw [rcm_0 h1, if_pos rfl, c_planAt_t h ht]
        dsimp only [Option.bind_some]
        rw [c_hasPair_f a1 a6 a5 c2]
        dsimp only [Option.bind_some]
        rw [if_pos rfl]
      · have i1 := rps0 hI
        unfold G_M_joint
        rw [r_isPair_f2 i1 ht c2, Option.bind_some]
        dsimp only
        rw [if_pos rfl]
  · refine ⟨-1, s, ?_, fun _ _ => rfl, fun s2 hI => ⟨wrI s2 85 0 0, ?_, Me_0⟩⟩
    · unfold F_BP_joint F_BP_joint_22
      rw [rcm_0 h1, if_pos rfl, c_planAt_f h c0]
      rfl
    · unfold G_M_joint
      rw [r_isPair_n (rps0 hI) (fun ⟨t, x, p, y1, y2, y3, y4, y5, y6⟩ => c0 ⟨t, y1, y4⟩), Option.bind_some]
      dsimp only
      rw [if_pos rfl]
theorem t_house {p0 p1 : Int32} (hN : 2000 ≤ N) (h : INV D hi ow s np As Ps) : ∃ ans s1, F_BP_house N (mkM h0 B D hi z s) (B + 0) p0 p1 = some (ans, (mkM h0 B D hi z (s1))) ∧ Fe (fun q => (5 ≤ q ∧ q ≤ 52) ∨ (54 ≤ q ∧ q ≤ 57)) s s1 ∧ ∀ s2, RPs s2 np As → ∃ s3, G_M_house N s2 p0 p1 = some (ans, s3) ∧ Me scK scJ s2 s3 := by
  have h1 := h.1
  by_cases c0 : okn np p0
  · obtain ⟨t, ht, rfl⟩ := c0
    obtain ⟨a1, a2, a3, a4, a5, a6, a7, a8, a9⟩ := h.2.2.2.2.2.2.2.2 t ht
    have ht6 : t < 6 := by have := h.2.2.2.2.1; omega
    have hG : GW (As t) 0 (0, 0) 0 := ⟨a5, by omega, by omega, Or.inl rfl⟩
    have cls : F_BP_house N (mkM h0 B D hi z s) (B + 0) (nI t) p1 = some (vat 10 (s.1 (Ps t + 10 + 4)) p1, (mkM h0 B D hi z s)) := by
      unfold F_BP_house
      rw [rcm_0 h1, if_pos rfl, c_planAt_t h ht]
      dsimp only [Option.bind_some]
      rw [pl_5 a1]
      dsimp only [Option.bind_some]
      rw [yt_3 (pl_T10 a1)]
      dsimp only [Option.bind_some]
      rw [ar_v (pl_T10 a1).2.2.2.2.2]
      rfl
    by_cases c1 : okn 10 p1
    · obtain ⟨j, hj, rfl⟩ := c1
      have e14 : s.1 (Ps t + 10 + 4) j = cd (q_hm (As t) 0 j) := a6.2.1.2.2.2 j hj
      refine ⟨cd (q_hm (As t) 0 j), s, ?_, fun _ _ => rfl, fun s2 hI => ?_⟩
      · rw [cls, vat_nI hj (by decide), e14]
      · have i1 := rps0 hI
        have i2 := (i1.2.2 t ht).2
        obtain ⟨s3, f1, f2, f3⟩ := r_lay (N := N) (by omega) ht6 hG i2
        have f1' : G_M_lay N (wrI s2 85 0 0) (nI t) 0 0 = some s3 := f1
        refine ⟨s3, ?_, Me_t Me_0 (Me_m (Me_of f3) (by decide) (by decide))⟩
        unfold G_M_house G_M_house_56
        rw [r_isPlan_t i1.1 i1.2.1 ht, Option.bind_some]
        dsimp only
        rw [if_neg i10, r_isHouse_t hj, Option.bind_some]
        dsimp only
        rw [if_neg i10, f1', Option.bind_some, r_hangsAt (by omega) a5 f2 hj, Option.bind_some]
        dsimp only
        cases hv : q_hm (As t) 0 j with
        | zero => rw [r6_0, cd_0, if_pos rfl]
        | succ y =>
          have hy := q_st_lt a5 (q_hg_st a5 ((q_hm_s a5).mp hv)).1
          rw [r6_s, cd_s, if_neg (nI_n1 (by omega)), L_6, pk_rem (by omega) (by omega) (by omega), pk_div (by omega) (by omega) (by omega), show (6 * (y / 8) + y % 8) / 6 = y / 8 by omega, show (6 * (y / 8) + y % 8) % 6 = y % 8 by omega, L_8, nI_mul, nI_add, cd_s, show 8 * (y / 8) + y % 8 = y by omega]
    · refine ⟨-1, s, ?_, fun _ _ => rfl, fun s2 hI => ⟨wrI s2 85 0 0, ?_, Me_0⟩⟩
      · rw [cls, vat_no (by decide) c1]
      · have i1 := rps0 hI
        unfold G_M_house G_M_house_20
        rw [r_isPlan_t i1.1 i1.2.1 ht, Option.bind_some]
        dsimp only
        rw [if_neg i10, r_isHouse_f c1, Option.bind_some]
        dsimp only
        rw [if_pos rfl]
  · refine ⟨-1, s, ?_, fun _ _ => rfl, fun s2 hI => ⟨wrI s2 85 0 0, ?_, Me_0⟩⟩
    · unfold F_BP_house
      rw [rcm_0 h1, if_pos rfl, c_planAt_f h c0]
      rfl
    · have i1 := rps0 hI
      unfold G_M_house G_M_house_20
      rw [r_isPlan_f i1.1 i1.2.1 c0, Option.bind_some]
      dsimp only
      rw [if_pos rfl]
theorem t_troubles {p0 : Int32} (h : INV D hi ow s np As Ps) : ∃ ans s1, F_BP_troubles N (mkM h0 B D hi z s) (B + 0) p0 = some (ans, (mkM h0 B D hi z (s1))) ∧ Fe (fun q => (5 ≤ q ∧ q ≤ 52) ∨ (54 ≤ q ∧ q ≤ 57)) s s1 ∧ ∀ s2, RPs s2 np As → ∃ s3, G_M_troubles N s2 p0 = some (ans, s3) ∧ Me scK scJ s2 s3 := by
  have h1 := h.1
  by_cases c0 : okn np p0
  · obtain ⟨t, ht, rfl⟩ := c0
    obtain ⟨a1, a2, a3, a4, a5, a6, a7, a8, a9⟩ := h.2.2.2.2.2.2.2.2 t ht
    have ht6 : t < 6 := by have := h.2.2.2.2.1; omega
    refine ⟨nI (q_nt (As t)), s, ?_, fun _ _ => rfl, fun s2 hI => ⟨wrI s2 85 0 0, ?_, Me_0⟩⟩
    · unfold F_BP_troubles F_BP_troubles_21
      rw [rcm_0 h1, if_pos rfl, c_planAt_t h ht]
      dsimp only [Option.bind_some]
      rw [pl_7 a1]
      dsimp only [Option.bind_some]
      rw [c_size (pl_L17 a1), a6.2.2.2.1.1]
      rfl
    · have i1 := rps0 hI
      unfold G_M_troubles G_M_troubles_23
      rw [r_isPlan_t i1.1 i1.2.1 ht, Option.bind_some]
      dsimp only
      rw [if_neg i10, rdA_nI (by omega) (by decide), Option.bind_some, rp_nt (i1.2.2 t ht).2]
  · refine ⟨-1, s, ?_, fun _ _ => rfl, fun s2 hI => ⟨wrI s2 85 0 0, ?_, Me_0⟩⟩
    · unfold F_BP_troubles F_BP_troubles_21
      rw [rcm_0 h1, if_pos rfl, c_planAt_f h c0]
      rfl
    · have i1 := rps0 hI
      unfold G_M_troubles G_M_troubles_23
      rw [r_isPlan_f i1.1 i1.2.1 c0, Option.bind_some]
      dsimp only
      rw [if_pos rfl]
theorem c_tsize (hf : FX D hi) : F_Tape_size N (mkM h0 B D hi z s) (B + 1) = some (s.1 1 1, (mkM h0 B D hi z s)) := s_Tape_size hf
theorem t_count {p0 : Int32} (h : IA eb D hi z ow s np As Ps P L bt) : ∃ ans, F_BP_count N (mkM h0 B D hi z s) (B + 0) p0 = some (ans, (mkM h0 B D hi z s)) ∧ G_M_count N s p0 = some (ans, wrI s 85 0 0) := by
  have h1 := h.1.1
  have h7 := h.1.2.2.2.2.2.2.1
  have i1 := rps0 (INV_rps h.1)
  have hnp := i1.2.1
  have e2 : (wrI s 85 0 0).1 85 2 = nI L := by
    have hm : Md [] [0] s (wrI s 85 0 0) := Md_f (by decide)
    rw [hm.2.1 2 (by decide)]
    exact h.2.2.1.2.2.1
  have hL : s.1 1 1 = nI L := h.2.2.1.2.1
  unfold F_BP_count F_BP_count_137 F_BP_count_121 F_BP_count_105 F_BP_count_89 F_BP_count_73 G_M_count G_M_count_147 G_M_count_129 G_M_count_111 G_M_count_93 G_M_count_75
  rw [rcm_0 h1, if_pos rfl, i1.1, e2]
  by_cases c0 : np = 0
  · have hp : F_BP_planAt N (mkM h0 B D hi z s) (B + 0) 0 = some (none, (mkM h0 B D hi z s)) := c_planAt_f h.1 (fun ⟨j, hj, _⟩ => by omega)
    rw [hp]
    dsimp only [Option.bind_some]
    rw [rdm_0_6 h1, rdm_0_0 h1]
    dsimp only [Option.bind_some]
    rw [c_tsize h1, h7, hL]
    dsimp only [Option.bind_some]
    rw [c0]
    simp only [if_pos nI_0]
    by_cases d0 : p0 = 0
    · exact ⟨nI 0, by rw [if_pos d0], by rw [if_pos d0]⟩
    · by_cases d1 : p0 = 1
      · exact ⟨nI L, by rw [if_neg d0, if_pos d1], by rw [if_neg d0, if_pos d1]⟩
      · by_cases d2 : p0 = 2
        · exact ⟨0, by rw [if_neg d0, if_neg d1, if_pos d2], by rw [if_neg d0, if_neg d1, if_pos d2]⟩
        · by_cases d3 : p0 = 3
          · exact ⟨0, by rw [if_neg d0, if_neg d1, if_neg d2, if_pos d3], by rw [if_neg d0, if_neg d1, if_neg d2, if_pos d3]⟩
          · by_cases d4 : p0 = 4
            · exact ⟨0, by rw [if_neg d0, if_neg d1, if_neg d2, if_neg d3, if_pos d4], by rw [if_neg d0, if_neg d1, if_neg d2, if_neg d3, if_pos d4]⟩
            · by_cases d5 : p0 = 5
              · exact ⟨0, by rw [if_neg d0, if_neg d1, if_neg d2, if_neg d3, if_neg d4, if_pos d5], by rw [if_neg d0, if_neg d1, if_neg d2, if_neg d3, if_neg d4, if_pos d5]⟩
              · by_cases d6 : p0 = 6
                · exact ⟨0, by rw [if_neg d0, if_neg d1, if_neg d2, if_neg d3, if_neg d4, if_neg d5, if_pos d6], by rw [if_neg d0, if_neg d1, if_neg d2, if_neg d3, if_neg d4, if_neg d5, if_pos d6]⟩
                · exact ⟨-1, by rw [if_neg d0, if_neg d1, if_neg d2, if_neg d3, if_neg d4, if_neg d5, if_neg d6], by rw [if_neg d0, if_neg d1, if_neg d2, if_neg d3, if_neg d4, if_neg d5, if_neg d6]⟩
  · have hp : F_BP_planAt N (mkM h0 B D hi z s) (B + 0) 0 = some (some (B + Ps 0), (mkM h0 B D hi z s)) := c_planAt_t h.1 (t := 0) (by omega)
    obtain ⟨a1, a2, a3, a4, a5, a6, a7, a8, a9⟩ := h.1.2.2.2.2.2.2.2.2 0 (by omega)
    have R := (i1.2.2 0 (by omega)).2
    have k1 : rdA (wrI s 85 0 0) 87 7 0 = some (nI (q_nb (As 0))) := (rdA_nI (j := 0) (by decide) (by decide)).trans (by rw [rp_nb R])
    have k2 : rdA (wrI s 85 0 0) 88 7 0 = some (nI (q_nc (As 0))) := (rdA_nI (j := 0) (by decide) (by decide)).trans (by rw [rp_nc R])
    have k3 : rdA (wrI s 85 0 0) 99 7 0 = some (nI (q_ns (As 0))) := (rdA_nI (j := 0) (by decide) (by decide)).trans (by rw [rp_ns R])
    have k4 : rdA (wrI s 85 0 0) 111 7 0 = some (nI (q_ne (As 0))) := (rdA_nI (j := 0) (by decide) (by decide)).trans (by rw [rp_ne R])
    have k5 : rdA (wrI s 85 0 0) 118 7 0 = some (nI (q_nr (As 0))) := (rdA_nI (j := 0) (by decide) (by decide)).trans (by rw [rp_nr R])
    rw [hp]
    dsimp only [Option.bind_some]
    rw [rdm_0_6 h1, rdm_0_0 h1, pl_0 a1, pl_1 a1, pl_6 a1, pl_8 a1, pl_9 a1]
    dsimp only [Option.bind_some]
    rw [c_tsize h1, c_size (pl_L1 a1), c_size (pl_L15 a1), c_size (pl_L19 a1), c_size (pl_L21 a1), h7, hL, a6.1.1, a6.1.2.1, a6.2.2.1.1, a6.2.2.2.2.1.1, a6.2.2.2.2.2.1.1]
    dsimp only [Option.bind_some]
    have hne : ¬ nI np = 0 := nI_ne0 (by omega) (by omega)
    simp only [if_neg hne]
    rw [k1, k2, k3, k4, k5]
    dsimp only [Option.bind_some]
    by_cases d0 : p0 = 0
    · exact ⟨nI np, by rw [if_pos d0], by rw [if_pos d0]⟩
    · by_cases d1 : p0 = 1
      · exact ⟨nI L, by rw [if_neg d0, if_pos d1], by rw [if_neg d0, if_pos d1]⟩
      · by_cases d2 : p0 = 2
        · exact ⟨_, by rw [if_neg d0, if_neg d1, if_pos d2], by rw [if_neg d0, if_neg d1, if_pos d2]⟩
        · by_cases d3 : p0 = 3
          · exact ⟨_, by rw [if_neg d0, if_neg d1, if_neg d2, if_pos d3], by rw [if_neg d0, if_neg d1, if_neg d2, if_pos d3]⟩
          · by_cases d4 : p0 = 4
            · exact ⟨_, by rw [if_neg d0, if_neg d1, if_neg d2, if_neg d3, if_pos d4], by rw [if_neg d0, if_neg d1, if_neg d2, if_neg d3, if_pos d4]⟩
            · by_cases d5 : p0 = 5
              · exact ⟨_, by rw [if_neg d0, if_neg d1, if_neg d2, if_neg d3, if_neg d4, if_pos d5], by rw [if_neg d0, if_neg d1, if_neg d2, if_neg d3, if_neg d4, if_pos d5]⟩
              · by_cases d6 : p0 = 6
                · exact ⟨_, by rw [if_neg d0, if_neg d1, if_neg d2, if_neg d3, if_neg d4, if_neg d5, if_pos d6], by rw [if_neg d0, if_neg d1, if_neg d2, if_neg d3, if_neg d4, if_neg d5, if_pos d6]⟩
                · exact ⟨-1, by rw [if_neg d0, if_neg d1, if_neg d2, if_neg d3, if_neg d4, if_neg d5, if_neg d6], by rw [if_neg d0, if_neg d1, if_neg d2, if_neg d3, if_neg d4, if_neg d5, if_neg d6]⟩
theorem st_count {p0 : Int32} : STP eb h0 B (fun S => F_BP_count N S (B + 0) p0) (fun s => G_M_count N s p0) := by
  intro D hi z s ⟨ow, np, As, Ps, P, L, bt, h⟩
  obtain ⟨ans, e1, e2⟩ := t_count (N := N) (h0 := h0) (B := B) (p0 := p0) h
  exact ⟨ans, D, hi, z, s, _, e1, h.1.1, e2, ow, np, As, Ps, P, L, bt, IA_q h (fun _ _ => rfl) h.1.2.2.2.1 Me_0⟩
/-- cable: the class answers, or it throws; the reference tells which -/
theorem t_cable_t {t x q : Nat} (h : IA eb D hi z ow s np As Ps P L bt) (ht : t < np) (hx : x < q_nc (As t)) (hq : q < 4) : ∃ ans s3, F_BP_cable N (mkM h0 B D hi z s) (B + 0) (nI t) (nI x) (nI q) = some (ans, (mkM h0 B D hi z s)) ∧ G_M_cable N s (nI t) (nI x) (nI q) = some (ans, s3) ∧ s3.1 85 0 = 0 ∧ Me scK scJ s s3 := by
  have h1 := h.1.1
  obtain ⟨a1, a2, a3, a4, a5, a6, a7, a8, a9⟩ := h.1.2.2.2.2.2.2.2.2 t ht
  have i0 := INV_rps h.1
  have ht6 : t < 6 := by have := i0.2.1; omega
  have hc := a5.1
  unfold WFc at hc
  have R := ((rps0 i0).2.2 t ht).2
  have e0 : (wrI s 85 0 0).1 85 0 = 0 := by
    show (wr1 s 85 0 0).1 85 0 = 0
    rw [wr1_at, if_pos rfl]
  obtain ⟨k0, k1, k2, k3⟩ := a6.1.2.2.2.1 x hx
  have cls : F_BP_cable N (mkM h0 B D hi z s) (B + 0) (nI t) (nI x) (nI q) = some (s.1 (Ps t + 1 + 1) (5 * x + q), (mkM h0 B D hi z s)) := by
    unfold F_BP_cable
    rw [rcm_0 h1, if_pos rfl, c_planAt_t h.1 ht]
    dsimp only [Option.bind_some]
    rw [c_hasCable_t a1 a6 a5 hx]
    dsimp only [Option.bind_some]
    rw [if_neg i10, if_neg (nI_pos (by omega)), if_pos (show nI q ≤ 3 from nI_le (b := 3) (by omega) (by decide)), pl_1 a1]
    dsimp only [Option.bind_some]
    rw [c_at (pl_L1 a1) a6.1.2.1 (by omega) hx (by omega)]
    rfl
  have ref : G_M_cable N s (nI t) (nI x) (nI q) = G_M_cable_24 N (nI t) (nI x) (nI q) 0 s := by
    unfold G_M_cable
    rw [r_isCable_t2 i0 ht hx, Option.bind_some]
    dsimp only
    rw [if_neg i10, r_isIn, if_neg (nI_pos (by omega)), if_neg (show ¬ (3 : Int32) < nI q from nI_nlt (a := 3) (by omega) (by decide)), Option.bind_some]
    dsimp only
    rw [if_neg i10]
  rw [cls, ref]
  unfold G_M_cable_24 G_M_cable_95
  rw [if_pos (by rw [e0]; decide), L_7, nI_mul, nI_add, rdA_nI (by omega) (by decide), rdA_nI (by omega) (by decide), rdA_nI (by omega) (by decide), rdA_nI (by omega) (by decide), rp_fr R hx, rp_tb R hx, rp_pr R hx, rp_ln R hx]
  dsimp only [Option.bind_some]
  by_cases d0 : q = 0
  · subst d0
    exact ⟨nI (q_fr (As t) x), wrI s 85 0 0, by rw [k0], by rw [if_pos nI_0], e0, Me_0⟩
  · rw [if_neg (nI_ne0 (by omega) (by omega))]
    by_cases d1 : q = 1
    · subst d1
      exact ⟨nI (q_tb (As t) x), wrI s 85 0 0, by rw [k1], if_pos rfl, e0, Me_0⟩
    · rw [if_neg (show ¬ nI q = 1 from fun e => d1 ((nI_eq (b := 1) (by omega) (by decide)).mp e))]
      by_cases d2 : q = 2
      · subst d2
        exact ⟨nI (q_pr (As t) x), wrI s 85 0 0, by rw [k2], if_pos rfl, e0, Me_0⟩
      · rw [if_neg (show ¬ nI q = 2 from fun e => d2 ((nI_eq (b := 2) (by omega) (by decide)).mp e))]
        have d3 : q = 3 := by omega
        subst d3
        exact ⟨nI (q_ln (As t) x), wrI s 85 0 0, by rw [k3], rfl, e0, Me_0⟩
theorem t_cable_f {p0 p1 p2 : Int32} (h : IA eb D hi z ow s np As Ps P L bt) (hno : ¬ ∃ t x q, t < np ∧ x < q_nc (As t) ∧ q < 4 ∧ p0 = nI t ∧ p1 = nI x ∧ p2 = nI q) : ∃ s3, G_M_cable N s p0 p1 p2 = some (0, s3) ∧ s3.1 85 0 = 1 ∧ Me scK scJ s s3 := by
  have i0 := INV_rps h.1
  have e1 : (wrI s 85 0 1).1 85 0 = 1 := by
    show (wr1 s 85 0 1).1 85 0 = 1
    rw [wr1_at, if_pos rfl]
  have h24 : G_M_cable_24 N p0 p1 p2 1 s = some (0, wrI s 85 0 1) := by
    unfold G_M_cable_24
    rw [if_neg (by rw [e1]; decide)]
  refine ⟨wrI s 85 0 1, ?_, e1, Me_of (Md_f (by decide))⟩
  unfold G_M_cable G_M_cable_23
  by_cases c : okC np As p0 p1
  · obtain ⟨t, x, ht, hx, rfl, rfl⟩ := c
    rw [r_isCable_t2 i0 ht hx, Option.bind_some]
    dsimp only
    have hq : ¬ okn 4 p2 := fun ⟨q, hq, e⟩ => hno ⟨t, x, q, ht, hx, hq, rfl, rfl, e⟩
    have hz : G_M_isIn N s p2 0 3 = some (0, s) := by
      have := r_in_f (N := N) (s := s) (n := 4) (p0 := p2) (by decide) hq
      rw [show nI 4 - 1 = (3 : Int32) from by decide] at this
      exact this
    rw [if_neg i10, hz, Option.bind_some]
    dsimp only
    rw [if_pos rfl, h24]
  · rw [r_isCable_n i0 c, Option.bind_some]
    dsimp only
    rw [if_pos rfl, h24]
end TOP7
