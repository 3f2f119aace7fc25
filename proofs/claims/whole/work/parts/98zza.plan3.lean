section PLC
variable {h0 : Nat → pm_C} {B : Nat} {D : Nat → pd} {hi z : Nat} {s : mst} {N np k : Nat} {As : Nat → AP} {Ps ow : Nat → Nat} {P L : Nat} {bt : Nat → Nat} {eb : Nat}
/-- the class behind a TEXT that is well -/
theorem c_planrest (hN : 1000 ≤ N) (h : IA eb D hi z ow s np As Ps P L bt) (hnp : np < 6) : ∃ D' s7, ((oR (mkM h0 B D hi z s) (B + 0) 10 2).bind fun oq10 => match oq10 with
    | none => none
    | some q10 =>
    (oI (mkM h0 B D hi z s) (B + 0) 10 6).bind fun v13 =>
    (oR (mkM h0 B D hi z s) (B + 0) 10 5).bind fun oq14 => match oq14 with
    | none => none
    | some q14 =>
    (sQ (mkM h0 B D hi z s) q10 v13 q14).bind fun S15 =>
    (some (ps_hi S15, pm_al S15 12 (.inr (4, [.int 0, .null, .null, .null, .null, .null, .null, .null, .null, .null, .null, .null])))).bind fun (q17, S16) =>
    (F_Plan_init N S16 q17).bind fun S18 =>
    (wF S18 (B + 0) 10 5 (.object "BuriedPairs$Plan") (.ref q17)).bind fun S19 =>
    (oR S19 (B + 0) 10 0).bind fun oq20 => match oq20 with
    | none => none
    | some q20 =>
    (F_Tape_cutTo N S19 q20 0).bind fun (v22, S21) =>
    (oI S21 (B + 0) 10 6).bind fun v23 =>
    (wF S21 (B + 0) 10 6 .int (.int (v23 + 1))).bind fun S24 =>
    (oI S24 (B + 0) 10 6).bind fun v25 =>
    some (v25 - 1, S24)) = some (nI np, mkM h0 B D' (hi + 27) (z + 1764) s7) ∧ (∀ k, k < hi → D' k = D k) ∧ PL D' (hi + 27) hi ∧ DRs s7 hi ∧ (∀ k, k < hi → k ≠ 0 → k ≠ 1 → k ≠ 4 → s7.1 k = s.1 k) ∧ s7.1 0 5 = nI hi ∧ s7.1 0 6 = nI (np + 1) ∧ s7.1 1 1 = nI 0 ∧ s7.1 4 np = nI P ∧ ∀ j, j ≠ np → s7.1 4 j = s.1 4 j := by
  obtain ⟨i1, i2, i3, i4⟩ := id h
  obtain ⟨h1, h2', h3, h4z, h5, h6, h7', h8, h9⟩ := i1
  obtain ⟨d1, d2, d3, d4, d5, d6⟩ := i2
  have hfx := h1.1
  have hq := (pl_A26 d1).1
  unfold RM at i4
  obtain ⟨D', s4, e4, b4, p4, r4⟩ := new_pla (h0 := h0) (B := B) (D := D) (hi := hi) (z := z) (s := wr1 s 4 np (nI P)) (N := N) hN
  have hD : ∀ k, k < hi → D' k = D k := fun k hk => (b4.2.1 k hk).1
  have s4k : ∀ k, k < hi → s4.1 k = (wr1 s 4 np (nI P)).1 k := fun k hk => (b4.2.1 k hk).2
  have hFX : FX D' (hi + 27) := ⟨by omega, fun k hk => by rw [hD k (by omega)]; exact h1.2 k hk⟩
  have v06 : s4.1 0 6 = nI np := by rw [s4k 0 (by omega), wr1_ne (by decide)]; exact h7'
  have v11 : s4.1 1 1 = nI L := by rw [s4k 1 (by omega), wr1_ne (by decide)]; exact i3.2.1
  refine ⟨D', wr1 (wr1 (wr1 s4 0 5 (nI hi)) 1 1 (nI 0)) 0 6 (nI (np + 1)), ?_, hD, p4, DRs_eq r4 (fun k k1 k2 => by rw [wr1_ne (by omega), wr1_ne (by omega), wr1_ne (by omega)]), fun k kh k0 k1 k4 => by rw [wr1_ne k0, wr1_ne k1, wr1_ne k0, s4k k kh, wr1_ne k4], ?_, ?_, ?_, ?_, fun j hj => ?_⟩
  · rw [rdm_0_2 h1, Option.bind_some]
    dsimp only
    rw [rdm_0_6 h1, Option.bind_some, h7', rdm_0_5 h1, Option.bind_some, d5, rof_nI (by omega)]
    dsimp only
    rw [q_s4 (fx_lt h1 (show 4 < 130 by decide)) (fx_4 h1) hnp (by decide) d1.1 d1.2.1 (by omega), Option.bind_some, al_mk o_pla, Option.bind_some]
    dsimp only
    rw [e4, Option.bind_some, wrm_0_5 hFX (by omega), Option.bind_some, rdm_0_0 hFX, Option.bind_some]
    dsimp only
    have ct : F_Tape_cutTo N (mkM h0 B D' (hi + 27) (z + 1764) (wr1 s4 0 5 (nI hi))) (B + 1) 0 = some (1, mkM h0 B D' (hi + 27) (z + 1764) (wr1 (wr1 s4 0 5 (nI hi)) 1 1 (nI 0))) := by
      rw [sg_Tape_cutTo hFX]
      unfold G_Tape_cutTo
      rw [if_neg (by decide), wr1_ne (by decide), v11, L_0, if_pos (nI_le (by omega) (by have := i3.1; omega))]
      rfl
    rw [ct, Option.bind_some]
    dsimp only
    rw [rdm_0_6 hFX, Option.bind_some, wr1_ne (by decide), wr1_at, if_neg (by decide), v06, nI_1, wrm_0_6 hFX, Option.bind_some, rdm_0_6 hFX, Option.bind_some, wrI_1, wr1_at, if_pos rfl, nI_pred]
  · rw [wr1_at, if_neg (by decide), wr1_ne (by decide), wr1_at, if_pos rfl]
  · rw [wr1_at, if_pos rfl]
  · rw [wr1_ne (by decide), wr1_at, if_pos rfl]
  · rw [wr1_ne (by decide), wr1_ne (by decide), wr1_ne (by decide), s4k 4 (by omega), wr1_at, if_pos rfl]
  · rw [wr1_ne (by decide), wr1_ne (by decide), wr1_ne (by decide), s4k 4 (by omega), wr1_at, if_neg hj]
theorem st_plan (hN : 1000 ≤ N) : STP eb h0 B (fun S => F_BP_plan N S (B + 0)) (fun s => G_M_plan N s) := by
  intro D hi z s ⟨ow, np, As, Ps, P, L, bt, h⟩
  have h1 := h.1.1
  have hnp := h.1.2.2.2.2.1
  have v06 := h.1.2.2.2.2.2.2.1
  obtain ⟨d1, d2, d3, d4, d5, d6⟩ := id h.2.1
  have m0 : ∀ s : mst, Md [] [0] s (wrI s 85 0 0) := fun s => Md_f (by decide)
  have an : aNS (mkM h0 B D hi z s) (B + 4) = some (nI 6) := q_n (fx_lt h1 (show 4 < 130 by decide)) (fx_4 h1) (Or.inl rfl)
  by_cases c : np = 6
  · refine ⟨-1, D, hi, z, s, wrI s 85 0 0, ?_, h1, ?_, ow, np, As, Ps, P, L, bt, IA_q h (fun _ _ => rfl) h.1.2.2.2.1 Me_0⟩
    · show F_BP_plan N (mkM h0 B D hi z s) (B + 0) = _
      unfold F_BP_plan F_BP_plan_34
      rw [rcm_0 h1, if_pos rfl, rdm_0_6 h1, Option.bind_some, v06, if_neg (nI_pos (by omega)), Option.bind_some, rdm_0_2 h1, Option.bind_some]
      dsimp only
      rw [an, Option.bind_some, if_pos (nI_le (by omega) (by omega))]
    · show G_M_plan N s = _
      unfold G_M_plan G_M_plan_21
      rw [(m0 s).2.1 19 (by decide), h.1.2.2.2.2.2.1, c]
      exact if_pos rfl
  · have hnp6 : np < 6 := by omega
    have ne6 : ¬ nI np = 6 := by rw [L_6]; exact fun e => c ((nI_eq (by omega) (by omega)).mp e)
    obtain ⟨r, s1, w, s3, e1, j1, e3, j3, q⟩ := both_rd (h0 := h0) (B := B) hN h
    have v06' := j1.1.2.2.2.2.2.2.1
    rcases q with ⟨q1, q2, q3⟩ | ⟨q1, q2, q3, A', g0, g1, g2, g3, g4, g5⟩
    · refine ⟨-1, D, hi, z, s1, s3, ?_, h1, ?_, ow, np, As, Ps, P, L, bt, j3⟩
      · show F_BP_plan N (mkM h0 B D hi z s) (B + 0) = _
        unfold F_BP_plan
        rw [rcm_0 h1, if_pos rfl, rdm_0_6 h1, Option.bind_some, v06, if_neg (nI_pos (by omega)), Option.bind_some, rdm_0_2 h1, Option.bind_some]
        dsimp only
        rw [an, Option.bind_some, if_neg (nI_ge hnp6 (by omega)), rdm_0_1 h1, Option.bind_some]
        dsimp only
        rw [rdm_0_5 h1, Option.bind_some, d5, rof_nI (by omega)]
        dsimp only
        rw [e1, Option.bind_some]
        dsimp only
        rw [if_neg q2]
        rfl
      · show G_M_plan N s1 = _
        unfold G_M_plan
        rw [(m0 s1).2.1 19 (by decide), j1.1.2.2.2.2.2.1, if_neg ne6, e3, Option.bind_some]
        exact if_pos q1
    · obtain ⟨D', s7, f1, f2, f3, f4, f5, f6, f7, f8, f9, f10⟩ := c_planrest (h0 := h0) (B := B) hN j1 hnp6
      have hfx := h1.1
      have hFX : FX D' (hi + 27) := ⟨by omega, fun k hk => by rw [f2 k (by omega)]; exact h1.2 k hk⟩
      have hp1 : ∀ k, k ∈ pers → 86 < k ∧ k < 130 := by decide
      have n85 : ∀ k, 85 ≤ k → k < 130 → s7.1 k = s1.1 k := fun k k1 k2 => f5 k (by omega) (by omega) (by omega) (by omega)
      have tp1 := RTX_tp j1.2.2.1
      have x7 : RTX s7 (tby L bt) L := ⟨tp1.1, by rw [n85 85 (by omega) (by omega)]; exact tp1.2.1, fun i hi' => by rw [n85 86 (by omega) (by omega)]; exact tp1.2.2 i hi'⟩
      have y0 : RTX (wrI s7 85 0 0) (tby L bt) L := RTX_md x7 (m0 s7) (by decide) (by decide)
      have w19 : (wrI s7 85 0 0).1 85 19 = nI np := by rw [(m0 s7).2.1 19 (by decide), n85 85 (by omega) (by omega)]; exact j1.1.2.2.2.2.2.1
      obtain ⟨w', u3, k1, k2, k3⟩ := r_readPlan (N := N) hN (show np < 7 by omega) y0 w19
      rcases k3 with ⟨f', y1, y2, y3⟩ | ⟨A2, y1, y2, y3, y4, y5⟩
      · rw [g0] at y1
        exact absurd y1 (by simp)
      rw [g0] at y1
      have ee := Sum.inr.inj y1
      rw [← ee] at y4 y5
      have u19 : u3.1 85 19 = nI np := by rw [k2.1.2.1 19 (by decide)]; exact w19
      obtain ⟨s9, l1, l2, l3, l4, l5, l6, l7, l8, l9⟩ := r_planrest (N := N) (by omega) (show np < 7 by omega) u19
      have hrd : ∀ k, k ∈ rdK → 86 < k ∧ k < 130 := by decide
      have hr2 : ∀ k, k ∈ [100, 111, 118, 125] → 86 < k ∧ k < 130 := by decide
      have k9 : ∀ k, k < 85 ∨ k = 86 ∨ 130 ≤ k → s9.1 k = s7.1 k := fun k hk => by
        rw [l2.1 k (fun y => by have := hr2 k y; omega) (by omega), k2.1.1 k (fun y => by have := hrd k y; omega) (by omega), (m0 s7).1 k (by simp) (by omega)]
      have hq := (pl_A26 d1).1
      refine ⟨nI np, D', hi + 27, z + 1764, s7, s9, ?_, hFX, ?_, owN ow hi np, np + 1, updA As np A', updN Ps np P, hi, 0, bt, IA_plan j1 hnp6 g1 f2 f3 (DRs_eq f4 (fun k k1 k2 => k9 k (by omega))) (fun k k1 k2 a0 a1 a3 a4 k3 => by rw [k9 k k1]; exact f5 k k2 a0 a1 a4) (by rw [k9 0 (by omega)]; exact f6) (by rw [k9 0 (by omega)]; exact f7) (by rw [k9 1 (by omega)]; exact f8) (by rw [k9 4 (by omega)]; exact f9) (fun j hj => by rw [k9 4 (by omega)]; exact f10 j hj) l4 l5 ?_ ?_ ?_ ?_ l6 l7 l8 l9⟩
      · show F_BP_plan N (mkM h0 B D hi z s) (B + 0) = _
        unfold F_BP_plan
        rw [rcm_0 h1, if_pos rfl, rdm_0_6 h1, Option.bind_some, v06, if_neg (nI_pos (by omega)), Option.bind_some, rdm_0_2 h1, Option.bind_some]
        dsimp only
        rw [an, Option.bind_some, if_neg (nI_ge hnp6 (by omega)), rdm_0_1 h1, Option.bind_some]
        dsimp only
        rw [rdm_0_5 h1, Option.bind_some, d5, rof_nI (by omega)]
        dsimp only
        rw [e1, Option.bind_some]
        dsimp only
        rw [if_pos q2]
        exact f1
      · show G_M_plan N s7 = _
        unfold G_M_plan
        rw [w19, if_neg ne6, k1, Option.bind_some]
        dsimp only
        rw [if_neg (by rw [y2]; decide)]
        exact l1
      · refine OTH_t (OTH_e (fun k hk => n85 k (by have := hp1 k hk; omega) (by have := hp1 k hk; omega))) (OTH_t (OTH_e (fun k hk => (m0 s7).1 k (by simp) (by have := hp1 k hk; omega))) (OTH_t k2.2 l3))
      · have blk : ∀ k, P ≤ k → k < P + 27 → s9.1 k = s1.1 k := fun k k1 k2 => by
          rw [k9 k (by omega)]
          exact f5 k (by omega) (by omega) (by omega) (by omega)
        exact ⟨CPc_e g2.1 (fun k k1 k2 => blk k (by omega) (by omega)), CPl_e g2.2 (fun k k1 k2 => blk k (by omega) (by omega))⟩
      · exact RPc_e y4 (fun k hk => l2.1 k (by revert hk; revert k; decide) (by revert hk; revert k; decide))
      · exact RPo_e y5 (fun k hk => l2.1 k (by revert hk; revert k; decide) (by revert hk; revert k; decide))
end PLC
