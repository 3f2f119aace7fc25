section JN2
variable {h0 : Nat → pm_C} {B : Nat} {D : Nat → pd} {hi z : Nat} {s : mst} {N P L i n : Nat} {A : AP} {b : Nat → Nat}
theorem c_readJoint (hN : 1000 ≤ N) (hf : FX D hi) (hp : PL D hi P) (hP : P = 58 ∨ 130 ≤ P) (hA : DA A) (hq : q_nq A < 50) (hx : CTX s b L) (hi2 : i ≤ L) (hs : OKS s P A i) : ∃ s', F_Reader_readJoint N (mkM h0 B D hi z s) (B + 3) (B + P) = some (mkM h0 B D hi z (s')) ∧ STC b L P s s' i (joiA b A i) := by
  obtain ⟨hw, ha, hc, hl⟩ := hs
  have hL := hx.1.1
  have hWc := hA.1.1
  unfold WFc at hWc
  have hX := hA.1.2.1
  have mk : ∀ (s1 : mst) f, (∀ k, k ≠ 3 → s1.1 k = s.1 k) → s1.1 3 0 = s.1 3 0 → s1.1 3 2 = nI f → f ≤ L → joiA b A i = .inl f → STC b L P s s1 i (joiA b A i) := by
    intro s1 f h1 h2 h3 h4 h5
    refine ⟨⟨fun k k1 k2 => h1 k k1, h2, ⟨q_nc A, by omega, ?_⟩, ?_⟩, Or.inl ⟨f, h5, h4, Or.inl h3⟩⟩
    · rw [h1 _ (by omega)]; exact hc.2.1
    · rw [h1 _ (by omega)]; exact hc.2.2.1
  have cpk : ∀ s1 : mst, (∀ k, k ≠ 3 → s1.1 k = s.1 k) → CPc s1 P A := fun s1 h1 => CPc_e hc (fun k k1 k2 => h1 k (by omega))
  have aw : ∀ j, (atS s j).1 3 2 = -1 := fun j => by rw [atS_j (by decide)]; exact hw
  have ac : ∀ j, CPc (atS s j) P A := fun j => atS_CPc hc (by omega)
  have pre1 : ∀ r : Int32 × mst, G_Reader_number N s 0 (nI (q_nc A) - 1) = some r → F_Reader_readJoint N (mkM h0 B D hi z s) (B + 3) (B + P) = J2 N (B + 3) (B + P) r.1 (mkM h0 B D hi z (r.2)) := by
    intro r e
    rw [rj_eq, rcm_3 hf, if_pos rfl, pl_1 hp, Option.bind_some]
    dsimp only
    rw [c_size (pl_L1 hp), Option.bind_some]
    dsimp only
    rw [hc.2.1, F_num hf e, Option.bind_some]
  rcases c_step (N := N) (n := q_nc A) hN hx hi2 ha hw (by omega) with ⟨f, x1, s1, g1, g2, g3, g4, g5, g6⟩ | ⟨x, j1, x1, x2, x3, x4, x5, x6⟩
  · refine ⟨s1, ?_, mk s1 f g4 g3 g2 g5 (by unfold joiA; rw [g6 _ (fun v hv => hv)])⟩
    rw [pre1 _ g1]
    exact w_J2 hf hp (cpk s1 g4) (by omega) hX (by omega) (by rw [g2]; exact nI_n1 (by omega))
  · have hxx := hX x x1
    have pre2 : ∀ r : Int32 × mst, G_Reader_number N (atS s j1) 0 (nI (q_pr A x) - 1) = some r → F_Reader_readJoint N (mkM h0 B D hi z s) (B + 3) (B + P) = J3 N (B + 3) (B + P) (nI x) r.1 (mkM h0 B D hi z (r.2)) := by
      intro r e
      rw [pre1 _ x3]
      unfold J2
      rw [d_pairsOf hp (ac j1) (by omega) x1, Option.bind_some]
      dsimp only
      rw [F_num hf e, Option.bind_some]
    rcases c_step (N := N) (n := q_pr A x) hN (atS_c hx (i := j1)) x6 atS_2 (aw j1) (by omega) with ⟨f, y1, s1, g1, g2, g3, g4, g5, g6⟩ | ⟨p, j2, p1, p2, p3, p4, p5, p6⟩
    · have kk : ∀ k, k ≠ 3 → s1.1 k = s.1 k := fun k hk => by rw [g4 k hk, atS_k hk]
      refine ⟨s1, ?_, mk s1 f kk (by rw [g3, atS_j (by decide)]) g2 g5 ?_⟩
      · rw [pre2 _ g1]
        exact w_J3 hf hp (cpk s1 kk) (by omega) hX (by omega) (by rw [g2]; exact nI_n1 (by omega))
      · have g7 := g6 (fun v => v < q_pr A x) (fun v hv => hv)
        unfold joiA
        rcases seqF (ok := fun v => v < q_nc A) x4 x1 g7 with e | e
        · rw [e]
        · rw [e]
          dsimp only
          rw [g7]
    · have ex := seqG (ok := fun v => v < q_nc A) x4 x1 p4
      rw [atS_a] at p3
      have pre3 : ∀ r : Int32 × mst, G_Reader_number N (atS s j2) 0 (nI (q_nc A) - 1) = some r → F_Reader_readJoint N (mkM h0 B D hi z s) (B + 3) (B + P) = J4 N (B + 3) (B + P) (nI x) (nI p) r.1 (mkM h0 B D hi z (r.2)) := by
        intro r e
        rw [pre2 _ p3]
        unfold J3
        rw [pl_1 hp, Option.bind_some]
        dsimp only
        rw [c_size (pl_L1 hp), Option.bind_some]
        dsimp only
        rw [(ac j2).2.1, F_num hf e, Option.bind_some]
      rcases c_step (N := N) (n := q_nc A) hN (atS_c hx (i := j2)) p6 atS_2 (aw j2) (by omega) with ⟨f, y1, s1, g1, g2, g3, g4, g5, g6⟩ | ⟨y, j3, y1, y2, y3, y4, y5, y6⟩
      · have kk : ∀ k, k ≠ 3 → s1.1 k = s.1 k := fun k hk => by rw [g4 k hk, atS_k hk]
        refine ⟨s1, ?_, mk s1 f kk (by rw [g3, atS_j (by decide)]) g2 g5 ?_⟩
        · rw [pre3 _ g1]
          exact w_J4 hf hp (cpk s1 kk) (by omega) hX (by omega) (by rw [g2]; exact nI_n1 (by omega))
        · have g7 := g6 (fun v => v < q_nc A ∧ q_fr A v = q_tb A x) (fun v hv => hv.1)
          unfold joiA
          rw [ex]
          dsimp only
          rcases seqF (ok := fun v => v < q_pr A x) p4 p1 g7 with e | e
          · rw [e]
          · rw [e]
            dsimp only
            rw [g7]
      · have ep := seqG (ok := fun v => v < q_pr A x) p4 p1 y4
        have hyy := hX y y1
        rw [atS_a] at y3
        rcases d_meet (N := N) (h0 := h0) (B := B) (z := z) hp (ac j3) (by omega) hX (by omega) x1 y1 with ⟨em, hm⟩ | ⟨em, hm⟩
        · have pre4 : ∀ r : Int32 × mst, G_Reader_number N (atS s j3) 0 (nI (q_pr A y) - 1) = some r → F_Reader_readJoint N (mkM h0 B D hi z s) (B + 3) (B + P) = (oI (mkM h0 B D hi z (r.2)) (B + 3) 7 2).bind fun v23 => if v23 = (-1) then ((oR (mkM h0 B D hi z (r.2)) (B + P) 4 4).bind fun oq24 => match oq24 with
              | none => none
              | some q24 => (F_BP_siteOf N (mkM h0 B D hi z (r.2)) (nI x) (nI p)).bind fun (v30, S29) => (F_BP_siteOf N S29 (nI y) r.1).bind fun (v32, S31) => (F_Layout_join N S31 q24 v30 v32).bind fun S33 => F_Reader_readJoint_106 N S33) else F_Reader_readJoint_106 N (mkM h0 B D hi z (r.2)) := by
            intro r e
            rw [pre3 _ y3]
            unfold J4
            rw [em, Option.bind_some]
            dsimp only
            rw [if_neg i10]
            unfold F_Reader_readJoint_64
            rw [d_pairsOf hp (ac j3) (by omega) y1, Option.bind_some]
            dsimp only
            rw [F_num hf e, Option.bind_some]
            rfl
          rcases c_step (N := N) (n := q_pr A y) hN (atS_c hx (i := j3)) y6 atS_2 (aw j3) (by omega) with ⟨f, z1, s1, g1, g2, g3, g4, g5, g6⟩ | ⟨q, j4, q1, q2, q3, q4, q5, q6⟩
          · have kk : ∀ k, k ≠ 3 → s1.1 k = s.1 k := fun k hk => by rw [g4 k hk, atS_k hk]
            refine ⟨s1, ?_, mk s1 f kk (by rw [g3, atS_j (by decide)]) g2 g5 ?_⟩
            · rw [pre4 _ g1, rdm_3_2 hf, Option.bind_some, if_neg (by rw [g2]; exact nI_n1 (by omega))]
              rfl
            · have g7 := g6 (fun v => v < q_pr A y) (fun v hv => hv)
              unfold joiA
              rw [ex]
              dsimp only
              rw [ep]
              dsimp only
              rcases seqF (ok := fun v => v < q_nc A ∧ q_fr A v = q_tb A x) y4 ⟨y1, hm⟩ g7 with e | e
              · rw [e]
              · rw [e]
                dsimp only
                rw [g7]
          · have ey := seqG (ok := fun v => v < q_nc A ∧ q_fr A v = q_tb A x) y4 ⟨y1, hm⟩ q4
            rw [atS_a] at q3
            have d1 : (8 * x + p) / 8 = x := by omega
            have d2 : (8 * x + p) % 8 = p := by omega
            have d3 : (8 * y + q) / 8 = y := by omega
            have d4 : (8 * y + q) % 8 = q := by omega
            have hA' : DA (aO A 0 (8 * x + p) (8 * y + q)) := aO_DA hA hq (by omega) (by unfold q_st; rw [d1, d2]; exact ⟨x1, p1⟩) (fun _ => ⟨by unfold q_st; rw [d3, d4]; exact ⟨y1, q1⟩, by rw [d1, d3]; exact hm⟩) (fun e => by omega)
            have hl4 : CL (atS s j4) (P + 5) (q_ly A (q_nq A)) := by
              unfold CL at hl ⊢
              rw [atS_k (by omega), atS_k (by omega), atS_k (by omega), atS_k (by omega)]
              exact hl
            obtain ⟨s2, w1, w2, w3⟩ := d_op (N := N) (h0 := h0) (B := B) (z := z) hp hP hA hA' hl4
            rw [d_join (yt_rc (pl_T5 hp))] at w1
            have kk : ∀ k, k ≠ 3 → ¬ (P + 5 < k ∧ k ≤ P + 5 + 4) → s2.1 k = s.1 k := fun k k1 k2 => by rw [w2.1 k k2, atS_k k1]
            have k3 : s2.1 3 = (atS s j4).1 3 := w2.1 3 (by omega)
            have cls : F_Reader_readJoint N (mkM h0 B D hi z s) (B + 3) (B + P) = some (mkM h0 B D hi z (s2)) := by
              rw [pre4 _ q3, rdm_3_2 hf, Option.bind_some, if_pos (aw j4), pl_4 hp, Option.bind_some]
              dsimp only
              rw [c_siteOf, Option.bind_some]
              dsimp only
              rw [c_siteOf, Option.bind_some]
              dsimp only
              rw [w1, Option.bind_some]
              rfl
            have hFR : FR P s s2 := ⟨fun k k1 k2 => kk k k1 (by omega), by rw [k3, atS_j (by decide)], ⟨q_nc A, by omega, by rw [kk _ (by omega) (by omega)]; exact hc.2.1⟩, by rw [kk _ (by omega) (by omega)]; exact hc.2.2.1⟩
            refine ⟨s2, cls, hFR, ?_⟩
            by_cases dl : dg (b j4)
            · left
              refine ⟨j4, ?_, q6, Or.inr ⟨by rw [k3]; exact aw j4, by rw [k3, atS_2], dl⟩⟩
              unfold joiA
              rw [ex]
              dsimp only
              rw [ep]
              dsimp only
              rw [ey]
              dsimp only
              rw [nmR_3 q4 q1 dl]
            · right
              refine ⟨aO A 0 (8 * x + p) (8 * y + q), j4, ?_, ⟨by rw [k3]; exact aw j4, by rw [k3, atS_2], ?_, w3⟩, by omega, q6⟩
              · unfold joiA
                rw [ex]
                dsimp only
                rw [ep]
                dsimp only
                rw [ey]
                dsimp only
                rw [nmR_g q4 q1 dl]
              · have g := aO_ag (A := A) (k := 0) (x := 8 * x + p) (y := 8 * y + q)
                exact CPc_e (ag_CPc g (by decide) (by decide) (by decide) (by decide) (by decide) (by decide) hc) (fun k k1 k2 => kk k (by omega) (by omega))
        · -- they do not meet
          have jm : nI j3 - 1 = nI (j3 - 1) := by
            have := nI_pred (j3 - 1)
            rw [show j3 - 1 + 1 = j3 by omega] at this
            exact this
          generalize hsw : wr1 (atS s j3) 3 2 (nI (j3 - 1)) = sw
          have kw : ∀ k, k ≠ 3 → sw.1 k = s.1 k := fun k hk => by rw [← hsw, wr1_ne hk, atS_k hk]
          have kw1 : sw.1 3 0 = s.1 3 0 := by rw [← hsw, wr1_at, if_neg (by decide), atS_j (by decide)]
          have kw3 : sw.1 3 2 = nI (j3 - 1) := by rw [← hsw, wr1_at, if_pos rfl]
          have ww : ¬ sw.1 3 2 = -1 := by rw [kw3]; exact nI_n1 (by omega)
          refine ⟨sw, ?_, mk sw (j3 - 1) kw kw1 kw3 (by omega) ?_⟩
          · rw [pre3 _ y3]
            unfold J4
            rw [em, Option.bind_some]
            dsimp only
            rw [if_pos rfl, rdm_3_1 hf, Option.bind_some, atS_2, jm, F_fail hf (g_fail_y (aw j3)), Option.bind_some, hsw]
            exact w_j64 hf hp (cpk sw kw) (by omega) ww
          · unfold joiA
            rw [ex]
            dsimp only
            rw [ep]
            dsimp only
            rw [nmR_n y4 (fun h => hm h.2)]
theorem c_readHouse (hN : 1000 ≤ N) (hf : FX D hi) (hp : PL D hi P) (hP : P = 58 ∨ 130 ≤ P) (hA : DA A) (hq : q_nq A < 50) (hx : CTX s b L) (hi2 : i ≤ L) (hs : OKS s P A i) : ∃ s', F_Reader_readHouse N (mkM h0 B D hi z s) (B + 3) (B + P) = some (mkM h0 B D hi z (s')) ∧ STC b L P s s' i (houA b A i) := by
  obtain ⟨hw, ha, hc, hl⟩ := hs
  have hL := hx.1.1
  have hWc := hA.1.1
  unfold WFc at hWc
  have hX := hA.1.2.1
  have nine : (9 : Int32) = nI 10 - 1 := by decide
  have mk : ∀ (s1 : mst) f, (∀ k, k ≠ 3 → s1.1 k = s.1 k) → s1.1 3 0 = s.1 3 0 → s1.1 3 2 = nI f → f ≤ L → houA b A i = .inl f → STC b L P s s1 i (houA b A i) := by
    intro s1 f h1 h2 h3 h4 h5
    refine ⟨⟨fun k k1 k2 => h1 k k1, h2, ⟨q_nc A, by omega, ?_⟩, ?_⟩, Or.inl ⟨f, h5, h4, Or.inl h3⟩⟩
    · rw [h1 _ (by omega)]; exact hc.2.1
    · rw [h1 _ (by omega)]; exact hc.2.2.1
  have cpk : ∀ s1 : mst, (∀ k, k ≠ 3 → s1.1 k = s.1 k) → CPc s1 P A := fun s1 h1 => CPc_e hc (fun k k1 k2 => h1 k (by omega))
  have aw : ∀ j, (atS s j).1 3 2 = -1 := fun j => by rw [atS_j (by decide)]; exact hw
  have ac : ∀ j, CPc (atS s j) P A := fun j => atS_CPc hc (by omega)
  have pre1 : ∀ r : Int32 × mst, G_Reader_number N s 0 (nI (q_nc A) - 1) = some r → F_Reader_readHouse N (mkM h0 B D hi z s) (B + 3) (B + P) = H2 N (B + 3) (B + P) r.1 (mkM h0 B D hi z (r.2)) := by
    intro r e
    rw [rh_eq, rcm_3 hf, if_pos rfl, pl_1 hp, Option.bind_some]
    dsimp only
    rw [c_size (pl_L1 hp), Option.bind_some]
    dsimp only
    rw [hc.2.1, F_num hf e, Option.bind_some]
  rcases c_step (N := N) (n := q_nc A) hN hx hi2 ha hw (by omega) with ⟨f, x1, s1, g1, g2, g3, g4, g5, g6⟩ | ⟨x, j1, x1, x2, x3, x4, x5, x6⟩
  · refine ⟨s1, ?_, mk s1 f g4 g3 g2 g5 (by unfold houA; rw [g6 _ (fun v hv => hv)])⟩
    rw [pre1 _ g1]
    exact w_H2 hf hp (cpk s1 g4) (by omega) (by rw [g2]; exact nI_n1 (by omega))
  · have hxx := hX x x1
    have pre2 : ∀ r : Int32 × mst, G_Reader_number N (atS s j1) 0 (nI (q_pr A x) - 1) = some r → F_Reader_readHouse N (mkM h0 B D hi z s) (B + 3) (B + P) = H3 N (B + 3) (B + P) (nI x) r.1 (mkM h0 B D hi z (r.2)) := by
      intro r e
      rw [pre1 _ x3]
      unfold H2
      rw [d_pairsOf hp (ac j1) (by omega) x1, Option.bind_some]
      dsimp only
      rw [F_num hf e, Option.bind_some]
    rcases c_step (N := N) (n := q_pr A x) hN (atS_c hx (i := j1)) x6 atS_2 (aw j1) (by omega) with ⟨f, y1, s1, g1, g2, g3, g4, g5, g6⟩ | ⟨p, j2, p1, p2, p3, p4, p5, p6⟩
    · have kk : ∀ k, k ≠ 3 → s1.1 k = s.1 k := fun k hk => by rw [g4 k hk, atS_k hk]
      refine ⟨s1, ?_, mk s1 f kk (by rw [g3, atS_j (by decide)]) g2 g5 ?_⟩
      · rw [pre2 _ g1]
        exact w_H3 hf (by rw [g2]; exact nI_n1 (by omega))
      · have g7 := g6 (fun v => v < q_pr A x) (fun v hv => hv)
        unfold houA
        rcases seqF (ok := fun v => v < q_nc A) x4 x1 g7 with e | e
        · rw [e]
        · rw [e]
          dsimp only
          rw [g7]
    · have ex := seqG (ok := fun v => v < q_nc A) x4 x1 p4
      rw [atS_a] at p3
      have pre3 : ∀ r : Int32 × mst, G_Reader_number N (atS s j2) 0 (nI 10 - 1) = some r → F_Reader_readHouse N (mkM h0 B D hi z s) (B + 3) (B + P) = (oI (mkM h0 B D hi z (r.2)) (B + 3) 7 2).bind fun v12 => if v12 = (-1) then ((oR (mkM h0 B D hi z (r.2)) (B + P) 4 4).bind fun oq13 => match oq13 with
          | none => none
          | some q13 => (F_BP_siteOf N (mkM h0 B D hi z (r.2)) (nI x) (nI p)).bind fun (v17, S16) => (F_Layout_hang N S16 q13 v17 r.1).bind fun S18 => F_Reader_readHouse_59 N S18) else F_Reader_readHouse_59 N (mkM h0 B D hi z (r.2)) := by
        intro r e
        rw [pre2 _ p3]
        unfold H3
        rw [nine, F_num hf e, Option.bind_some]
        rfl
      rcases c_step (N := N) (n := 10) hN (atS_c hx (i := j2)) p6 atS_2 (aw j2) (by omega) with ⟨f, z1, s1, g1, g2, g3, g4, g5, g6⟩ | ⟨q, j4, q1, q2, q3, q4, q5, q6⟩
      · have kk : ∀ k, k ≠ 3 → s1.1 k = s.1 k := fun k hk => by rw [g4 k hk, atS_k hk]
        refine ⟨s1, ?_, mk s1 f kk (by rw [g3, atS_j (by decide)]) g2 g5 ?_⟩
        · rw [pre3 _ g1, rdm_3_2 hf, Option.bind_some, if_neg (by rw [g2]; exact nI_n1 (by omega))]
          rfl
        · have g7 := g6 (fun v => v < 10) (fun v hv => hv)
          unfold houA
          rw [ex]
          dsimp only
          rcases seqF (ok := fun v => v < q_pr A x) p4 p1 g7 with e | e
          · rw [e]
          · rw [e]
            dsimp only
            rw [g7]
      · have ep := seqG (ok := fun v => v < q_pr A x) p4 p1 q4
        rw [atS_a] at q3
        have d1 : (8 * x + p) / 8 = x := by omega
        have d2 : (8 * x + p) % 8 = p := by omega
        have hA' : DA (aO A 1 (8 * x + p) q) := aO_DA hA hq (by omega) (by unfold q_st; rw [d1, d2]; exact ⟨x1, p1⟩) (fun e => by omega) (fun _ => q1)
        have hl4 : CL (atS s j4) (P + 5) (q_ly A (q_nq A)) := by
          unfold CL at hl ⊢
          rw [atS_k (by omega), atS_k (by omega), atS_k (by omega), atS_k (by omega)]
          exact hl
        obtain ⟨s2, w1, w2, w3⟩ := d_op (N := N) (h0 := h0) (B := B) (z := z) hp hP hA hA' hl4
        rw [d_hang (yt_rc (pl_T5 hp))] at w1
        have kk : ∀ k, k ≠ 3 → ¬ (P + 5 < k ∧ k ≤ P + 5 + 4) → s2.1 k = s.1 k := fun k k1 k2 => by rw [w2.1 k k2, atS_k k1]
        have k3 : s2.1 3 = (atS s j4).1 3 := w2.1 3 (by omega)
        have cls : F_Reader_readHouse N (mkM h0 B D hi z s) (B + 3) (B + P) = some (mkM h0 B D hi z (s2)) := by
          rw [pre3 _ q3, rdm_3_2 hf, Option.bind_some, if_pos (aw j4), pl_4 hp, Option.bind_some]
          dsimp only
          rw [c_siteOf, Option.bind_some]
          dsimp only
          rw [w1, Option.bind_some]
          rfl
        have hFR : FR P s s2 := ⟨fun k k1 k2 => kk k k1 (by omega), by rw [k3, atS_j (by decide)], ⟨q_nc A, by omega, by rw [kk _ (by omega) (by omega)]; exact hc.2.1⟩, by rw [kk _ (by omega) (by omega)]; exact hc.2.2.1⟩
        refine ⟨s2, cls, hFR, ?_⟩
        by_cases dl : dg (b j4)
        · left
          refine ⟨j4, ?_, q6, Or.inr ⟨by rw [k3]; exact aw j4, by rw [k3, atS_2], dl⟩⟩
          unfold houA
          rw [ex]
          dsimp only
          rw [ep]
          dsimp only
          rw [nmR_3 q4 q1 dl]
        · right
          refine ⟨aO A 1 (8 * x + p) q, j4, ?_, ⟨by rw [k3]; exact aw j4, by rw [k3, atS_2], ?_, w3⟩, by omega, q6⟩
          · unfold houA
            rw [ex]
            dsimp only
            rw [ep]
            dsimp only
            rw [nmR_g q4 q1 dl]
          · have g := aO_ag (A := A) (k := 1) (x := 8 * x + p) (y := q)
            exact CPc_e (ag_CPc g (by decide) (by decide) (by decide) (by decide) (by decide) (by decide) hc) (fun k k1 k2 => kk k (by omega) (by omega))
end JN2
