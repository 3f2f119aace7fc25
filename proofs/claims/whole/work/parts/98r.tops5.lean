section TOP5
variable {h0 : Nat → pm_C} {B : Nat} {D : Nat → pd} {hi z : Nat} {s : mst} {N np : Nat} {As : Nat → AP} {Ps ow : Nat → Nat}
theorem c_hasTest_t {P k : Nat} {A : AP} (hp : PL D hi P) (h : CP s P A) (hA : WF A) (hk : k < q_ne A) : F_Ledger_has N (mkM h0 B D hi z s) (B + (P + 19)) (nI k) = some (1, (mkM h0 B D hi z s)) := c_has_t (pl_L19 hp) h.2.2.2.2.1.1 (by have hc := hA.1; unfold WFc at hc; omega) hk
theorem c_hasTest_f {P : Nat} {A : AP} {i : Int32} (hp : PL D hi P) (h : CP s P A) (hA : WF A) (hk : ¬ okn (q_ne A) i) : F_Ledger_has N (mkM h0 B D hi z s) (B + (P + 19)) i = some (0, (mkM h0 B D hi z s)) := c_has_f (pl_L19 hp) h.2.2.2.2.1.1 (by have hc := hA.1; unfold WFc at hc; omega) hk
theorem t_tells {p0 p1 p2 : Int32} {wet : Nat} (hwet : wet ≤ 1) (hN : 2000 ≤ N) (h : INV D hi ow s np As Ps) : ∃ ans s1, F_BP_tells N (mkM h0 B D hi z s) (B + 0) p0 p1 p2 (nI wet) = some (ans, (mkM h0 B D hi z (s1))) ∧ Fm (fun q => 6 ≤ q ∧ q ≤ 51) s s1 ∧ ∀ s2, RPs s2 np As → ∃ s3, G_M_tells N s2 p0 p1 p2 (nI wet) = some (ans, s3) ∧ Me scK scJ s2 s3 := by
  have h1 := h.1
  have bad : ∀ s2, RPs s2 np As → (¬ (∃ t k, t < np ∧ k < q_ne (As t) ∧ p0 = nI t ∧ p1 = nI k) ∨ ¬ okW np As p0 p2) → G_M_tells N s2 p0 p1 p2 (nI wet) = some (-1, wrI s2 85 0 0) := by
    intro s2 hI hb
    have i1 := rps0 hI
    unfold G_M_tells G_M_tells_35 G_M_tells_36
    by_cases d : ∃ t k, t < np ∧ k < q_ne (As t) ∧ p0 = nI t ∧ p1 = nI k
    · rcases hb with hb | hb
      · exact absurd d hb
      · obtain ⟨t, k, ht, hk, rfl, rfl⟩ := d
        rw [r_isTest_t i1 ht hk, Option.bind_some]
        dsimp only
        rw [if_neg i10, r_isWorld_n i1 hb, Option.bind_some]
        dsimp only
        rw [if_pos rfl]
    · rw [r_isTest_f i1 d, Option.bind_some]
      dsimp only
      rw [if_pos rfl]
  by_cases c : okW np As p0 p2
  · obtain ⟨t, w, ht, hw, rfl, rfl⟩ := c
    obtain ⟨a1, a2, a3, a4, a5, a6, a7, a8, a9⟩ := h.2.2.2.2.2.2.2.2 t ht
    have hnp := h.2.2.2.2.1
    have ht6 : t < 6 := by omega
    have hpw := pow10 a5.1.2.2.2.2.2.1
    have hG : GW (As t) w (0, 0) wet := ⟨a5, by omega, hwet, Or.inl rfl⟩
    unfold F_BP_tells F_BP_tells_25
    rw [rcm_0 h1, if_pos rfl, c_planWith_t h ht hw]
    dsimp only [Option.bind_some]
    rw [pl_8 a1]
    dsimp only [Option.bind_some]
    by_cases c1 : okn (q_ne (As t)) p1
    · obtain ⟨k, hk, rfl⟩ := c1
      rw [c_hasTest_t a1 a6 a5 hk]
      dsimp only [Option.bind_some]
      rw [if_neg i10]
      obtain ⟨s1, l1, l2, l3⟩ := c_lay (N := N) (h0 := h0) (B := B) (z := z) (w := w) (by omega) h1 a1 a5 a6 a3 a4 (by omega)
      have C1 : CP s1 (Ps t) (As t) := CP_fm a6 l2 (fun q q1 q2 => by unfold KL; omega)
      obtain ⟨v, s1', m1, m2, m3⟩ := c_tell (N := N) (h0 := h0) (B := B) (z := z) (by omega) h1 a1 hG (Or.inl rfl) a3 a4 C1 l3 hk
      refine ⟨nI v, s1', ?_, Fm_t (Fm_m l2 (fun q hq => by unfold KL at hq; omega)) (Fm_m m2 (fun q hq => by omega)), fun s2 hI => ?_⟩
      · rw [rdm_0_3 h1]
        dsimp only [Option.bind_some]
        rw [rdm_5_0 h1]
        dsimp only [Option.bind_some]
        rw [l1]
        dsimp only [Option.bind_some]
        rw [rdm_0_3 h1]
        dsimp only [Option.bind_some]
        rw [m1]
        rfl
      · have i1 := rps0 hI
        have i2 := (i1.2.2 t ht).2
        obtain ⟨v', s3, f1, f2, f3⟩ := r_wouldIn (N := N) (by omega) ht6 hG i2 hk
        refine ⟨s3, ?_, Me_t Me_0 (Me_m (Me_of f2) (by decide) (by decide))⟩
        unfold G_M_tells G_M_tells_36
        rw [r_isTest_t i1 ht hk, Option.bind_some]
        dsimp only
        rw [if_neg i10, r_isWorld_t i1 ht hw, Option.bind_some]
        dsimp only
        rw [if_neg i10, f1, Option.bind_some, WD_u m3 f3]
    · refine ⟨-1, s, ?_, Fm_r, fun s2 hI => ⟨wrI s2 85 0 0, bad s2 hI (Or.inl ?_), Me_0⟩⟩
      · rw [c_hasTest_f a1 a6 a5 c1]
        dsimp only [Option.bind_some]
        rw [if_pos rfl]
      · intro ⟨t', k, y1, y2, y3, y4⟩
        have et : t' = t := ((nI_eq (by omega) (by omega)).mp y3).symm
        subst et
        exact c1 ⟨k, y2, y4⟩
  · refine ⟨-1, s, ?_, Fm_r, fun s2 hI => ⟨wrI s2 85 0 0, bad s2 hI (Or.inr c), Me_0⟩⟩
    unfold F_BP_tells F_BP_tells_25
    rw [rcm_0 h1, if_pos rfl, c_planWith_f h c]
    rfl
theorem t_spare {p0 p1 p2 : Int32} (hN : 2000 ≤ N) (h : INV D hi ow s np As Ps) : ∃ ans s1, F_BP_spare N (mkM h0 B D hi z s) (B + 0) p0 p1 p2 = some (ans, (mkM h0 B D hi z (s1))) ∧ Fm (fun q => 6 ≤ q ∧ q ≤ 51) s s1 ∧ ∀ s2, RPs s2 np As → ∃ s3, G_M_spare N s2 p0 p1 p2 = some (ans, s3) ∧ Me scK scJ s2 s3 := by
  have h1 := h.1
  by_cases c : okW np As p0 p1
  · obtain ⟨t, w, ht, hw, rfl, rfl⟩ := c
    obtain ⟨a1, a2, a3, a4, a5, a6, a7, a8, a9⟩ := h.2.2.2.2.2.2.2.2 t ht
    have ht6 : t < 6 := by have := h.2.2.2.2.1; omega
    have hc := a5.1
    unfold WFc at hc
    have hpw := pow10 a5.1.2.2.2.2.2.1
    have hG : GW (As t) w (0, 0) 0 := ⟨a5, by omega, by omega, Or.inl rfl⟩
    by_cases c2 : okn (q_nb (As t)) p2
    · obtain ⟨b, hb, rfl⟩ := c2
      by_cases c3 : q_pc (As t) b = 0
      · refine ⟨-1, s, ?_, Fm_r, fun s2 hI => ⟨wrI s2 85 0 0, ?_, Me_0⟩⟩
        · unfold F_BP_spare F_BP_spare_23
          rw [rcm_0 h1, if_pos rfl, c_planWith_t h ht hw]
          dsimp only [Option.bind_some]
          rw [c_cableTo_t a1 a6 a5 hb, show q_ff (q_tb (As t)) b (q_nc (As t)) = 0 from c3, cd_0]
          dsimp only [Option.bind_some]
          rw [if_pos rfl]
        · have i1 := rps0 hI
          have i2 := (i1.2.2 t ht).2
          obtain ⟨r1, e1, e2⟩ := r_box_t (N := N) ht6 i2 a5 hb
          unfold G_M_spare G_M_spare_40
          rw [r_isWorld_t i1 ht hw, Option.bind_some]
          dsimp only
          rw [if_neg i10, e1, Option.bind_some, e2, Option.bind_some]
          dsimp only
          rw [if_neg i10, r_ct (by omega) ht6 a5 i2 (by omega), c3, cd_0, Option.bind_some]
          dsimp only
          rw [if_pos rfl]
      · obtain ⟨x, hx⟩ : ∃ x, q_pc (As t) b = x + 1 := ⟨q_pc (As t) b - 1, by omega⟩
        have hxn : x < q_nc (As t) := by have := (q_pc_s a5 c3).1; omega
        have hff : q_ff (q_tb (As t)) b (q_nc (As t)) = x + 1 := hx
        obtain ⟨s1, l1, l2, l3⟩ := c_lay (N := N) (h0 := h0) (B := B) (z := z) (w := w) (by omega) h1 a1 a5 a6 a3 a4 (by omega)
        have C1 : CP s1 (Ps t) (As t) := CP_fm a6 l2 (fun q q1 q2 => by unfold KL; omega)
        obtain ⟨a, s1', m1, m2, m3⟩ := c_openPairs (N := N) (h0 := h0) (B := B) (z := z) (by omega) h1 a1 hG (Or.inl rfl) a3 a4 C1 l3 hxn
        have C2 : CP s1' (Ps t) (As t) := CP_fm C1 m2 (fun q q1 q2 => by omega)
        have W2 : CW D hi s1' (As t) w (0, 0) (Ps t) := CW_fm l3 m2 a3 (fun q hq => by omega)
        obtain ⟨d, n1, n2, n3⟩ := c_hungPairs (N := N) (h0 := h0) (B := B) (z := z) (by omega) h1 a1 a5 a4 C2 W2 hxn
        obtain ⟨v, v1, v2, v3⟩ := andn (a := a) (c := d) m3.1
        have hS : SPb (As t) w (0, 0) x v := by
          refine ⟨v2, fun j => ?_⟩
          rw [v3 j, m3.2 j, n3 j]
          constructor
          · intro ⟨⟨k1, k2, k3⟩, k4⟩
            refine ⟨k1, ?_, k2, k3⟩
            by_cases k5 : q_hg (As t) w (8 * x + j) = 0
            · exact k5
            · exact absurd ⟨k1, k5⟩ k4
          · intro ⟨k1, k2, k3, k4⟩
            exact ⟨⟨k1, k3, k4⟩, fun k5 => k5.2 k2⟩
        refine ⟨nI v, s1', ?_, Fm_t (Fm_m l2 (fun q hq => by unfold KL at hq; omega)) (Fm_m m2 (fun q hq => by omega)), fun s2 hI => ?_⟩
        · unfold F_BP_spare
          rw [rcm_0 h1, if_pos rfl, c_planWith_t h ht hw]
          dsimp only [Option.bind_some]
          rw [c_cableTo_t a1 a6 a5 hb, hff, cd_s]
          dsimp only [Option.bind_some]
          rw [if_neg (nI_n1 (by omega)), rdm_0_3 h1]
          dsimp only [Option.bind_some]
          rw [rdm_5_0 h1]
          dsimp only [Option.bind_some]
          rw [l1]
          dsimp only [Option.bind_some]
          rw [rdm_0_3 h1]
          dsimp only [Option.bind_some]
          rw [c_cableTo_t a1 C1 a5 hb, hff, cd_s]
          dsimp only [Option.bind_some]
          rw [m1]
          dsimp only [Option.bind_some]
          rw [rdm_0_3 h1]
          dsimp only [Option.bind_some]
          rw [rdm_5_0 h1]
          dsimp only [Option.bind_some]
          rw [c_cableTo_t a1 C2 a5 hb, hff, cd_s]
          dsimp only [Option.bind_some]
          rw [n1]
          dsimp only [Option.bind_some]
          rw [v1]
        · have i1 := rps0 hI
          have i2 := (i1.2.2 t ht).2
          obtain ⟨r1, e1, e2⟩ := r_box_t (N := N) ht6 i2 a5 hb
          obtain ⟨s3, f1, f2, f3⟩ := r_lay (N := N) (by omega) ht6 hG i2
          have f1' : G_M_lay N (wrI s2 85 0 0) (nI t) (nI w) 0 = some s3 := f1
          have R3 : RP s3 t (As t) := RP_md i2 f3 (by decide)
          obtain ⟨v', s4, g1, g2, g3⟩ := r_spare (N := N) (by omega) ht6 hG R3 f2 hxn
          refine ⟨s4, ?_, Me_t Me_0 (Me_t (Me_m (Me_of f3) (by decide) (by decide)) (Me_m (Me_of g2) (by decide) (by decide)))⟩
          unfold G_M_spare
          rw [r_isWorld_t i1 ht hw, Option.bind_some]
          dsimp only
          rw [if_neg i10, e1, Option.bind_some, e2, Option.bind_some]
          dsimp only
          rw [if_neg i10, r_ct (by omega) ht6 a5 i2 (by omega), hx, cd_s, Option.bind_some]
          dsimp only
          rw [if_neg (nI_n1 (by omega)), f1', Option.bind_some, r_ct (by omega) ht6 a5 R3 (by omega), hx, cd_s, Option.bind_some]
          dsimp only
          rw [g1, SPb_u hS g3]
    · refine ⟨-1, s, ?_, Fm_r, fun s2 hI => ⟨wrI s2 85 0 0, ?_, Me_0⟩⟩
      · unfold F_BP_spare F_BP_spare_23
        rw [rcm_0 h1, if_pos rfl, c_planWith_t h ht hw]
        dsimp only [Option.bind_some]
        rw [c_cableTo_f a1 a6 a5 c2]
        dsimp only [Option.bind_some]
        rw [if_pos rfl]
      · have i1 := rps0 hI
        have i2 := (i1.2.2 t ht).2
        obtain ⟨r1, e1, e2⟩ := r_box_f (N := N) ht6 i2 a5 c2
        unfold G_M_spare G_M_spare_40
        rw [r_isWorld_t i1 ht hw, Option.bind_some]
        dsimp only
        rw [if_neg i10, e1, Option.bind_some, e2, Option.bind_some]
        dsimp only
        rw [if_pos rfl]
  · refine ⟨-1, s, ?_, Fm_r, fun s2 hI => ⟨wrI s2 85 0 0, ?_, Me_0⟩⟩
    · unfold F_BP_spare F_BP_spare_23
      rw [rcm_0 h1, if_pos rfl, c_planWith_f h c]
      rfl
    · unfold G_M_spare G_M_spare_40
      rw [r_isWorld_n (rps0 hI) c, Option.bind_some]
      dsimp only
      rw [if_pos rfl]
theorem t_moves {p0 p1 p2 p3 : Int32} (hN : 2000 ≤ N) (h : INV D hi ow s np As Ps) : ∃ ans s1, F_BP_moves N (mkM h0 B D hi z s) (B + 0) p0 p1 p2 p3 = some (ans, (mkM h0 B D hi z (s1))) ∧ Fm (fun q => (6 ≤ q ∧ q ≤ 51) ∨ (54 ≤ q ∧ q ≤ 57)) s s1 ∧ ∀ s2, RPs s2 np As → ∃ s3, G_M_moves N s2 p0 p1 p2 p3 = some (ans, s3) ∧ Me scK scJ s2 s3 := by
  have h1 := h.1
  by_cases c : okW np As p0 p1
  · obtain ⟨t, w, ht, hw, rfl, rfl⟩ := c
    obtain ⟨a1, a2, a3, a4, a5, a6, a7, a8, a9⟩ := h.2.2.2.2.2.2.2.2 t ht
    have ht6 : t < 6 := by have := h.2.2.2.2.1; omega
    have hc := a5.1
    unfold WFc at hc
    have hpw := pow10 a5.1.2.2.2.2.2.1
    have hG : GW (As t) w (0, 0) 0 := ⟨a5, by omega, by omega, Or.inl rfl⟩
    by_cases c2 : okn (q_nb (As t)) p2
    · obtain ⟨b, hb, rfl⟩ := c2
      by_cases c3 : q_pc (As t) b = 0
      · refine ⟨-1, s, ?_, Fm_r, fun s2 hI => ⟨wrI s2 85 0 0, ?_, Me_0⟩⟩
        · unfold F_BP_moves F_BP_moves_23
          rw [rcm_0 h1, if_pos rfl, c_planWith_t h ht hw]
          dsimp only [Option.bind_some]
          rw [c_cableTo_t a1 a6 a5 hb, show q_ff (q_tb (As t)) b (q_nc (As t)) = 0 from c3, cd_0]
          dsimp only [Option.bind_some]
          rw [if_pos rfl]
        · have i1 := rps0 hI
          have i2 := (i1.2.2 t ht).2
          obtain ⟨r1, e1, e2⟩ := r_box_t (N := N) ht6 i2 a5 hb
          unfold G_M_moves G_M_moves_40
          rw [r_isWorld_t i1 ht hw, Option.bind_some]
          dsimp only
          rw [if_neg i10, e1, Option.bind_some, e2, Option.bind_some]
          dsimp only
          rw [if_neg i10, r_ct (by omega) ht6 a5 i2 (by omega), c3, cd_0, Option.bind_some]
          dsimp only
          rw [if_pos rfl]
      · obtain ⟨x, hx⟩ : ∃ x, q_pc (As t) b = x + 1 := ⟨q_pc (As t) b - 1, by omega⟩
        have hxn : x < q_nc (As t) := by have := (q_pc_s a5 c3).1; omega
        have hff : q_ff (q_tb (As t)) b (q_nc (As t)) = x + 1 := hx
        obtain ⟨K, hK⟩ : ∃ K : Nat, K = 20 := ⟨20, rfl⟩
        obtain ⟨s1, l1, l2, l3⟩ := c_lay (N := N) (h0 := h0) (B := B) (z := z) (w := w) (by omega) h1 a1 a5 a6 a3 a4 (by omega)
        have C1 : CP s1 (Ps t) (As t) := CP_fm a6 l2 (fun q q1 q2 => by unfold KL; omega)
        obtain ⟨a, s1', m1, m2, m3⟩ := c_openPairs (N := N) (h0 := h0) (B := B) (z := z) (by omega) h1 a1 hG (Or.inl rfl) a3 a4 C1 l3 hxn
        have C2 : CP s1' (Ps t) (As t) := CP_fm C1 m2 (fun q q1 q2 => by omega)
        have W2 : CW D hi s1' (As t) w (0, 0) (Ps t) := CW_fm l3 m2 a3 (fun q hq => by omega)
        obtain ⟨s1'', n1, n2, n3⟩ := c_moverWork (N := N) (h0 := h0) (B := B) (z := z) (K := K) (by omega) h1 a1 a5 C2 a3 a4 W2 hxn m3 hK
        have hmn : (mrun (q_wt (As t)) (q_us (As t) w x) (q_m0 (As t) w x) K).2.2.1 ≤ K := mrun_n rfl K
        have ref : ∀ s2, RPs s2 np As → ∃ s3, G_M_moves N s2 (nI t) (nI w) (nI b) p3 = G_M_moves_197 N p3 s3 ∧ Me scK scJ s2 s3 ∧ RV s3 x (q_us (As t) w x) (mrun (q_wt (As t)) (q_us (As t) w x) (q_m0 (As t) w x) K) := by
          intro s2 hI
          have i1 := rps0 hI
          have i2 := (i1.2.2 t ht).2
          obtain ⟨r1, e1, e2⟩ := r_box_t (N := N) ht6 i2 a5 hb
          obtain ⟨s3, f1, f2, f3⟩ := r_lay (N := N) (by omega) ht6 hG i2
          have f1' : G_M_lay N (wrI s2 85 0 0) (nI t) (nI w) 0 = some s3 := f1
          have R3 : RP s3 t (As t) := RP_md i2 f3 (by decide)
          obtain ⟨s4, g1, g2, g3⟩ := r_moves (N := N) (p3 := p3) (K := K) (by omega) ht6 hG hxn R3 f2 hK
          refine ⟨s4, ?_, Me_t Me_0 (Me_t (Me_m (Me_of f3) (by decide) (by decide)) (Me_m (Me_of g2) (by decide) (by decide))), g3⟩
          unfold G_M_moves
          rw [r_isWorld_t i1 ht hw, Option.bind_some]
          dsimp only
          rw [if_neg i10, e1, Option.bind_some, e2, Option.bind_some]
          dsimp only
          rw [if_neg i10, r_ct (by omega) ht6 a5 i2 (by omega), hx, cd_s, Option.bind_some]
          dsimp only
          rw [if_neg (nI_n1 (by omega)), r_ct (by omega) ht6 a5 i2 (by omega), hx, cd_s, Option.bind_some]
          dsimp only
          rw [f1', Option.bind_some, g1]
        have cls : F_BP_moves N (mkM h0 B D hi z s) (B + 0) (nI t) (nI w) (nI b) p3 = if p3 = -1 then some (s1''.1 54 5, (mkM h0 B D hi z (s1''))) else (F_Mover_moveAt N (mkM h0 B D hi z (s1'')) (B + 54) p3).bind fun (v54, S53) => some (v54, S53) := by
          unfold F_BP_moves F_BP_moves_96
          rw [rcm_0 h1, if_pos rfl, c_planWith_t h ht hw]
          dsimp only [Option.bind_some]
          rw [c_cableTo_t a1 a6 a5 hb, hff, cd_s]
          dsimp only [Option.bind_some]
          rw [if_neg (nI_n1 (by omega)), rdm_0_3 h1]
          dsimp only [Option.bind_some]
          rw [rdm_5_0 h1]
          dsimp only [Option.bind_some]
          rw [l1]
          dsimp only [Option.bind_some]
          rw [rdm_0_4 h1]
          dsimp only [Option.bind_some]
          rw [rdm_0_3 h1]
          dsimp only [Option.bind_some]
          rw [rdm_5_0 h1]
          dsimp only [Option.bind_some]
          rw [c_cableTo_t a1 C1 a5 hb, hff, cd_s]
          dsimp only [Option.bind_some]
          rw [rdm_0_3 h1]
          dsimp only [Option.bind_some]
          rw [c_cableTo_t a1 C1 a5 hb, hff, cd_s]
          dsimp only [Option.bind_some]
          rw [m1]
          dsimp only [Option.bind_some]
          rw [n1]
          dsimp only [Option.bind_some]
          rw [rdm_0_4 h1]
          dsimp only [Option.bind_some]
          rw [rdm_54_5 h1]
          dsimp only [Option.bind_some]
        have hFm : Fm (fun q => (6 ≤ q ∧ q ≤ 51) ∨ (54 ≤ q ∧ q ≤ 57)) s s1'' := Fm_t (Fm_m l2 (fun q hq => by unfold KL at hq; omega)) (Fm_t (Fm_m m2 (fun q hq => by omega)) (Fm_m n2 (fun q hq => by omega)))
        rw [cls]
        generalize mrun (q_wt (As t)) (q_us (As t) w x) (q_m0 (As t) w x) K = m at n3 hmn ref
        have v5 := n3.2.2.2.1
        by_cases c4 : p3 = -1
        · refine ⟨nI m.2.2.1, s1'', by rw [if_pos c4, v5], hFm, fun s2 hI => ?_⟩
          obtain ⟨s3, f1, f2, f3⟩ := ref s2 hI
          refine ⟨s3, ?_, f2⟩
          rw [f1]
          unfold G_M_moves_197 G_M_moves_236
          rw [if_pos c4, f3.2.2.2.2.1]
        · rw [if_neg c4, sg_Mover_moveAt h1]
          unfold G_Mover_moveAt G_Mover_moveAt_20
          rw [v5]
          by_cases c5 : okn m.2.2.1 p3
          · obtain ⟨i, hi5, rfl⟩ := c5
            refine ⟨nI (m.2.2.2 i), s1'', ?_, hFm, fun s2 hI => ?_⟩
            · rw [if_neg (nI_ge hi5 (by omega)), vat_nI (by omega) (by decide), n3.2.2.2.2 i hi5]
              rfl
            · obtain ⟨s3, f1, f2, f3⟩ := ref s2 hI
              refine ⟨s3, ?_, f2⟩
              rw [f1]
              unfold G_M_moves_197 G_M_moves_236
              rw [if_neg c4, f3.2.2.2.2.1, r_in_t hi5 (by omega), Option.bind_some]
              dsimp only
              rw [if_neg i10, rdA_nI (by omega) (by decide), Option.bind_some, f3.2.2.2.2.2 i hi5]
          · refine ⟨-1, s1'', ?_, hFm, fun s2 hI => ?_⟩
            · rcases okn_not (show m.2.2.1 < 2 ^ 31 by omega) c5 with d | d
              · rw [vat_no (show 20 < 2 ^ 31 by decide) (fun ⟨i, hi5, e⟩ => absurd d (by rw [e]; exact nI_pos (by omega))), ite_self]
                rfl
              · rw [if_pos d]
                rfl
            · obtain ⟨s3, f1, f2, f3⟩ := ref s2 hI
              refine ⟨s3, ?_, f2⟩
              rw [f1]
              unfold G_M_moves_197 G_M_moves_236
              rw [if_neg c4, f3.2.2.2.2.1, r_in_f (by omega) c5, Option.bind_some]
              dsimp only
              rw [if_pos rfl]
    · refine ⟨-1, s, ?_, Fm_r, fun s2 hI => ⟨wrI s2 85 0 0, ?_, Me_0⟩⟩
      · unfold F_BP_moves F_BP_moves_23
        rw [rcm_0 h1, if_pos rfl, c_planWith_t h ht hw]
        dsimp only [Option.bind_some]
        rw [c_cableTo_f a1 a6 a5 c2]
        dsimp only [Option.bind_some]
        rw [if_pos rfl]
      · have i1 := rps0 hI
        have i2 := (i1.2.2 t ht).2
        obtain ⟨r1, e1, e2⟩ := r_box_f (N := N) ht6 i2 a5 c2
        unfold G_M_moves G_M_moves_40
        rw [r_isWorld_t i1 ht hw, Option.bind_some]
        dsimp only
        rw [if_neg i10, e1, Option.bind_some, e2, Option.bind_some]
        dsimp only
        rw [if_pos rfl]
  · refine ⟨-1, s, ?_, Fm_r, fun s2 hI => ⟨wrI s2 85 0 0, ?_, Me_0⟩⟩
    · unfold F_BP_moves F_BP_moves_23
      rw [rcm_0 h1, if_pos rfl, c_planWith_f h c]
      rfl
    · unfold G_M_moves G_M_moves_40
      rw [r_isWorld_n (rps0 hI) c, Option.bind_some]
      dsimp only
      rw [if_pos rfl]
end TOP5
