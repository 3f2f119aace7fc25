/-! ===== read, unread ===== -/
section RDS
variable {h0 : Nat → pm_C} {B : Nat} {D : Nat → pd} {hi z : Nat} {s : mst} {N np : Nat} {As : Nat → AP} {Ps ow : Nat → Nat} {P L : Nat} {bt : Nat → Nat} {A : AP} {p0 p1 p2 p3 p4 p5 p6 : Int32} {k x p q d t u e y i : Nat} {eb : Nat}
theorem aR_ag : AG A (aR A k x p) [18, 19, 20] [6] := by
  refine ⟨fun f f0 hf => ?_, fun i hi => ?_⟩
  · unfold aR
    rw [upF_n (fun e => hf (by rw [e]; decide)), upF_n (fun e => hf (by rw [e]; decide)), upF_n (fun e => hf (by rw [e]; decide)), upF_n f0]
  · unfold aR
    rw [upF_n (by decide), upF_n (by decide), upF_n (by decide), upF_s]
    exact updN_n (fun e => hi (by rw [e]; decide))
theorem aR_nr : q_nr (aR A k x p) = q_nr A + 1 := by
  show aR A k x p 0 6 = _
  unfold aR
  rw [upF_n (by decide), upF_n (by decide), upF_n (by decide), upF_s, updN_s]
theorem aR_rt : q_rt (aR A k x p) = updN (q_rt A) (q_nr A) k := by
  show aR A k x p 18 = _
  unfold aR
  rw [upF_n (by decide), upF_n (by decide), upF_s]
  rfl
theorem aR_rw : q_rw (aR A k x p) = updN (q_rw A) (q_nr A) x := by
  show aR A k x p 19 = _
  unfold aR
  rw [upF_n (by decide), upF_s]
  rfl
theorem aR_rv : q_rv (aR A k x p) = updN (q_rv A) (q_nr A) p := by
  show aR A k x p 20 = _
  unfold aR
  rw [upF_s]
  rfl
theorem aU_ag : AG A (aU A) [] [6] := by
  refine ⟨fun f f0 hf => ?_, fun i hi => ?_⟩
  · unfold aU
    rw [upF_n f0]
  · unfold aU
    rw [upF_s]
    exact updN_n (fun e => hi (by rw [e]; decide))
theorem aU_nr : q_nr (aU A) = q_nr A - 1 := by
  show aU A 0 6 = _
  unfold aU
  rw [upF_s, updN_s]
theorem aR_WF (hA : WF A) (hn : q_nr A < 24) (hk : k < q_ne A) (hx : x ≤ 1) (hp : p < 2 ^ 31) : WF (aR A k x p) := by
  have g := aR_ag (A := A) (k := k) (x := x) (p := p)
  have hsb := AG_SB g (by decide) (by decide)
  have a1 := hA.1
  unfold WFc at a1
  refine sb_WF hsb hA (by rw [ag_ne g (by decide)]; omega) (by rw [aR_nr]; omega) (ag_WFe g (by decide) (by decide) (by decide) (by decide) (by decide) (by decide) (by decide) (by decide) hA.2.2.2.2.2.1) ?_ (ag_WFw g (by decide) hA.2.2.2.2.2.2.2)
  intro j hj
  rw [aR_nr] at hj
  rw [aR_rt, aR_rw, aR_rv, ag_ne g (by decide)]
  by_cases c : j = q_nr A
  · subst c
    rw [updN_s, updN_s, updN_s]
    exact ⟨hk, hx, hp⟩
  · rw [updN_n c, updN_n c, updN_n c]
    exact hA.2.2.2.2.2.2.1 j (by omega)
theorem aU_WF (hA : WF A) : WF (aU A) := by
  have g := aU_ag (A := A)
  have hsb := AG_SB g (by decide) (by decide)
  have a1 := hA.1
  unfold WFc at a1
  refine sb_WF hsb hA (by rw [ag_ne g (by decide)]; omega) (by rw [aU_nr]; omega) (ag_WFe g (by decide) (by decide) (by decide) (by decide) (by decide) (by decide) (by decide) (by decide) hA.2.2.2.2.2.1) ?_ (ag_WFw g (by decide) hA.2.2.2.2.2.2.2)
  intro j hj
  rw [aU_nr] at hj
  rw [ag_rt g (by decide), ag_rw g (by decide), ag_rv g (by decide), ag_ne g (by decide)]
  exact hA.2.2.2.2.2.2.1 j (by omega)
theorem c_addR (hp : PL D hi P) (hcp : CPr s P A) (hn : q_nr A < 24) (hx : x ≤ 1) : F_Plan_addReading N (mkM h0 B D hi z s) (B + P) p1 (nI x) p3 = some (nI (q_nr A + 1), (mkM h0 B D hi z (wr1 (ladd s (P + 21) (q_nr A) p1 (nI x) p3 0 0) (P + 24) 4 0))) := by
  have key : F_Plan_addReading_14_2 N (B + P) p3 (nI x) p1 (B + (P + 21)) (mkM h0 B D hi z s) = some (nI (q_nr A + 1), (mkM h0 B D hi z (wr1 (ladd s (P + 21) (q_nr A) p1 (nI x) p3 0 0) (P + 24) 4 0))) := by
    unfold F_Plan_addReading_14_2 F_Sheet_forgetFits
    rw [c_add (pl_L21 hp) hcp.1 hcp.2.1 hn (by decide)]
    dsimp only [Option.bind_some]
    rw [if_neg (nI_n1 (by omega)), pl_11 hp]
    dsimp only [Option.bind_some]
    rw [sh_rc hp, if_pos rfl, sw_4 hp (Or.inl rfl)]
    dsimp only [Option.bind_some]
    rw [pl_9 hp]
    dsimp only [Option.bind_some]
    rw [c_size (pl_L21 hp), wr1_ne (by omega), ladd_2]
    rfl
  unfold F_Plan_addReading
  rw [pl_rc hp, if_pos rfl, pl_9 hp]
  dsimp only [Option.bind_some]
  by_cases c : x = 0
  · subst c
    rw [if_pos nI_0]
    exact key
  · have c1 : x = 1 := by omega
    subst c1
    rw [if_neg (by decide)]
    exact key
theorem c_addR_f (hp : PL D hi P) (hcp : CPr s P A) (hn : q_nr A = 24) : F_Plan_addReading N (mkM h0 B D hi z s) (B + P) p1 p2 p3 = some (-1, (mkM h0 B D hi z s)) := by
  unfold F_Plan_addReading F_Plan_addReading_14_2
  rw [pl_rc hp, if_pos rfl, pl_9 hp]
  dsimp only [Option.bind_some]
  rw [c_add_f (pl_L21 hp) hcp.1 hcp.2.1 (by omega) (by omega), c_add_f (pl_L21 hp) hcp.1 hcp.2.1 (by omega) (by omega)]
  dsimp only [Option.bind_some]
  rw [if_pos rfl, ite_self]
theorem st_read {wet : Nat} (hwet : wet ≤ 1) : STP eb h0 B (fun S => F_BP_read N S (B + 0) p0 p1 (nI wet) p3) (fun s => G_M_read N s p0 p1 (nI wet) p3) := by
  intro D hi z s ⟨ow, np, As, Ps, P, L, bt, h⟩
  have h1 := h.1.1
  have i0 := INV_rps h.1
  have no : ∀ (e1 : F_BP_read N (mkM h0 B D hi z s) (B + 0) p0 p1 (nI wet) p3 = some (-1, mkM h0 B D hi z s)) (e2 : G_M_read N s p0 p1 (nI wet) p3 = some (-1, wrI s 85 0 0)), ∃ ans D' hi' z' s1 s3, F_BP_read N (mkM h0 B D hi z s) (B + 0) p0 p1 (nI wet) p3 = some (ans, mkM h0 B D' hi' z' s1) ∧ FX D' hi' ∧ G_M_read N s1 p0 p1 (nI wet) p3 = some (ans, s3) ∧ IAX eb D' hi' z' s3 := fun e1 e2 => ⟨-1, D, hi, z, s, _, e1, h1, e2, ow, np, As, Ps, P, L, bt, IA_q h (fun _ _ => rfl) h.1.2.2.2.1 Me_0⟩
  by_cases c0 : ∃ t k, t < np ∧ k < q_ne (As t) ∧ p0 = nI t ∧ p1 = nI k
  · obtain ⟨t, k, ht, hk, rfl, rfl⟩ := c0
    obtain ⟨a1, a2, a3, a4, a5, a6, a7, a8, a9⟩ := h.1.2.2.2.2.2.2.2.2 t ht
    have hnp := i0.2.1
    have hc := a5.1
    unfold WFc at hc
    have pre : F_BP_read N (mkM h0 B D hi z s) (B + 0) (nI t) (nI k) (nI wet) p3 = if 0 ≤ p3 then (F_Plan_addReading N (mkM h0 B D hi z s) (B + Ps t) (nI k) (nI wet) p3).bind fun (v7, S6) => some (v7, S6) else some (-1, mkM h0 B D hi z s) := by
      unfold F_BP_read F_BP_read_29
      rw [rcm_0 h1, if_pos rfl, c_planAt_t h.1 ht]
      dsimp only [Option.bind_some]
      rw [pl_8 a1]
      dsimp only [Option.bind_some]
      rw [c_hasTest_t a1 a6 a5 hk]
      dsimp only [Option.bind_some]
      rw [if_neg i10]
    have ref : ∀ s1, RPs s1 np As → G_M_read N s1 (nI t) (nI k) (nI wet) p3 = if p3 < 0 then some (-1, wrI s1 85 0 0) else if nI (q_nr (As t)) = 24 then some (-1, wrI s1 85 0 0) else (stA 0 (wrI s1 85 0 0) 119 144 (nI (24 * t + q_nr (As t))) (nI k)).bind fun s5 => (stA 3 s5 121 144 (nI (24 * t + q_nr (As t))) (nI wet)).bind fun s6 => (stA 0 s6 120 144 (nI (24 * t + q_nr (As t))) p3).bind fun s7 => (rdA s7 118 7 (nI t)).bind fun v8 => (stA 0 s7 118 7 (nI t) (v8 + 1)).bind fun s9 => (rdA s9 118 7 (nI t)).bind fun v10 => some (v10, s9) := by
      intro s1 hI
      have i1 := rps0 hI
      unfold G_M_read G_M_read_30
      rw [r_isTest_t i1 ht hk, Option.bind_some]
      dsimp only
      rw [if_neg i10, rdA_nI (by omega) (by decide), Option.bind_some, rp_nr (i1.2.2 t ht).2, Option.bind_some, L_24, nI_mul, nI_add]
    by_cases c3 : p3 < 0
    · refine no ?_ ?_
      · rw [pre, if_neg (fun y => absurd c3 (Int32.not_lt.mpr y))]
      · rw [ref s i0, if_pos c3]
    · have c3' : 0 ≤ p3 := Int32.not_lt.mp c3
      rw [if_pos c3'] at pre
      by_cases hfull : q_nr (As t) = 24
      · refine no ?_ ?_
        · rw [pre, c_addR_f a1 a6.2.2.2.2.2.1 hfull]
          rfl
        · rw [ref s i0, if_neg c3, hfull]
          exact if_pos rfl
      · have hn : q_nr (As t) < 24 := by omega
        obtain ⟨v, hv, e3⟩ : ∃ v, v < 2 ^ 31 ∧ p3 = nI v := by
          refine ⟨p3.toNatClampNeg, ?_, ?_⟩
          · have := Int32.toInt_lt p3
            show p3.toInt.toNat < 2 ^ 31
            have h2 := Int32.le_iff_toInt_le.mp c3'
            have h3 : (0 : Int32).toInt = 0 := rfl
            omega
          · apply Int32.toInt_inj.mp
            have h2 := Int32.le_iff_toInt_le.mp c3'
            have h3 : (0 : Int32).toInt = 0 := rfl
            have h4 := Int32.toInt_lt p3
            have h5 : (nI p3.toNatClampNeg).toInt = (p3.toNatClampNeg : Int) := nI_toInt (by show p3.toInt.toNat < 2 ^ 31; omega)
            rw [h5]
            show p3.toInt = (p3.toInt.toNat : Int)
            omega
        generalize hs1 : wr1 (ladd s (Ps t + 21) (q_nr (As t)) (nI k) (nI wet) p3 0 0) (Ps t + 24) 4 0 = s1
        have f1 : F_BP_read N (mkM h0 B D hi z s) (B + 0) (nI t) (nI k) (nI wet) p3 = some (nI (q_nr (As t) + 1), mkM h0 B D hi z s1) := by
          rw [pre, c_addR a1 a6.2.2.2.2.2.1 hn hwet, hs1]
          rfl
        have hq := (pl_A26 a1).1
        have k1 : ∀ m, m ≠ Ps t + 21 → m ≠ Ps t + 22 → m ≠ Ps t + 24 → s1.1 m = s.1 m := by
          intro m m1 m2 m3
          rw [← hs1, wr1_ne m3, ladd_ne m1 m2]
        have kr : ∀ m, 85 ≤ m → m < 130 → s1.1 m = s.1 m := fun m m1 m2 => k1 m (by omega) (by omega) (by omega)
        have i1 : RPs s1 np As := RPs_e i0 kr
        have i2 := rps0 i1
        have e2 := ref s1 i1
        have e118 := rp_nr (i2.2.2 t ht).2
        rw [if_neg c3, if_neg (show ¬ nI (q_nr (As t)) = 24 from fun e => hfull ((nI_eq (b := 24) (by omega) (by decide)).mp e))] at e2
        generalize hs0 : wrI s1 85 0 0 = s0 at e2 i2 e118
        have hnar : pm_nar 3 (nI wet) = nI wet := by
          rcases (show wet = 0 ∨ wet = 1 by omega) with c | c
          · rw [c]; exact nar3_n0
          · rw [c]; exact nar3_n1
        rw [stA_nI (by omega) (by decide), Option.bind_some, stZ_nI (by omega) (by decide), Option.bind_some, hnar, stA_nI (by omega) (by decide), Option.bind_some, rdA_nI (by omega) (by decide), Option.bind_some, wr1_ne (by decide), wr1_ne (by decide), wr1_ne (by decide), e118, nI_1, stA_nI (by omega) (by decide), Option.bind_some, rdA_nI (by omega) (by decide), Option.bind_some, wr1_at, if_pos rfl] at e2
        generalize hs3 : wr1 (wr1 (wr1 (wr1 s0 119 (24 * t + q_nr (As t)) (nI k)) 121 (24 * t + q_nr (As t)) (nI wet)) 120 (24 * t + q_nr (As t)) p3) 118 t (nI (q_nr (As t) + 1)) = s3 at e2
        have m0 : Md [] [0] s1 s0 := by rw [← hs0]; exact Md_f (by decide)
        have w3 : ∀ m, m < 118 ∨ 121 < m → s3.1 m = s0.1 m := by
          intro m hm
          rw [← hs3, wr1_ne (by omega), wr1_ne (by omega), wr1_ne (by omega), wr1_ne (by omega)]
        have w0 : ∀ m, m ≠ 85 → s0.1 m = s1.1 m := fun m hm => m0.1 m (by simp) hm
        have x119 : ∀ j, s3.1 119 j = if j = 24 * t + q_nr (As t) then nI k else s0.1 119 j := by
          intro j
          rw [← hs3, wr1_ne (by decide), wr1_ne (by decide), wr1_ne (by decide), wr1_at]
        have x121 : ∀ j, s3.1 121 j = if j = 24 * t + q_nr (As t) then nI wet else s0.1 121 j := by
          intro j
          rw [← hs3, wr1_ne (by decide), wr1_ne (by decide), wr1_at, wr1_ne (by decide)]
        have x120 : ∀ j, s3.1 120 j = if j = 24 * t + q_nr (As t) then p3 else s0.1 120 j := by
          intro j
          rw [← hs3, wr1_ne (by decide), wr1_at, wr1_ne (by decide), wr1_ne (by decide)]
        have x118 : ∀ j, s3.1 118 j = if j = t then nI (q_nr (As t) + 1) else s0.1 118 j := by
          intro j
          rw [← hs3, wr1_at, wr1_ne (by decide), wr1_ne (by decide), wr1_ne (by decide)]
        have y3 : ∀ m, m < 85 ∨ m = 86 ∨ 130 ≤ m → s3.1 m = s1.1 m := fun m hm => by rw [w3 m (by omega), w0 m (by omega)]
        have z3 : ∀ m, m < 85 ∨ m = 86 ∨ 130 ≤ m → m ≠ Ps t + 21 → m ≠ Ps t + 22 → m ≠ Ps t + 24 → s3.1 m = s.1 m := fun m hm m1 m2 m3 => (y3 m hm).trans (k1 m m1 m2 m3)
        have l21 : ∀ j, s3.1 (Ps t + 21) j = (ladd s (Ps t + 21) (q_nr (As t)) (nI k) (nI wet) p3 0 0).1 (Ps t + 21) j := by
          intro j
          rw [y3 _ (by omega), ← hs1, wr1_ne (by omega)]
        have l22 : ∀ j, s3.1 (Ps t + 21 + 1) j = (ladd s (Ps t + 21) (q_nr (As t)) (nI k) (nI wet) p3 0 0).1 (Ps t + 21 + 1) j := by
          intro j
          rw [y3 _ (by omega), ← hs1, wr1_ne (by omega)]
        have l24 : ∀ j, s3.1 (Ps t + 24) j = if j = 4 then 0 else s.1 (Ps t + 24) j := by
          intro j
          rw [y3 _ (by omega), ← hs1, wr1_at, ladd_ne (by omega) (by omega)]
        have g := aR_ag (A := As t) (k := k) (x := wet) (p := v)
        have hsb := AG_SB g (by decide) (by decide)
        obtain ⟨c1, c2, c3, c4, c5, c6, c7⟩ := a6
        obtain ⟨r1, r2, r3, r4, r5, r6⟩ := (i2.2.2 t ht).2
        have rest : ∀ (l : List Nat), (∀ m, m ∈ l → m < 118 ∨ 121 < m) → ∀ m, m ∈ l → s3.1 m = s0.1 m := fun l hl m hm => w3 m (hl m hm)
        have S3 : SH D hi ow s3 t (Ps t) (As t) := by
          obtain ⟨⟨hC, r, r1, r2, r3⟩, hfr⟩ := a7
          have e25 : s3.1 (Ps t + 25) = s.1 (Ps t + 25) := z3 _ (by omega) (by omega) (by omega) (by omega)
          refine ⟨⟨COL_e hC e25, r, by rw [l24, if_neg (by decide)]; exact r1, r2, fun j hj => ?_⟩, Or.inl (by rw [l24, if_pos rfl]; rfl)⟩
          obtain ⟨b1, b2, b3⟩ := r3 j hj
          refine ⟨b1, by unfold has; rw [e25]; exact b2, fun w hw => ?_⟩
          unfold cv
          rw [e25]
          rcases hC j (tb_lt r2 hj) with q1 | ⟨K', q1, q2, q3, q4⟩
          · exact absurd q1 b2
          · have q5 := b3 w hw
            unfold cv at q5
            have q3' := q3.1
            have n1 := a2 21 (by omega)
            have n2 := a2 22 (by omega)
            have n4 := a2 24 (by omega)
            rw [q1, nS_nI q2, z3 K' ?_ (fun y => by rw [y] at q4; omega) (fun y => by rw [y] at q4; omega) (fun y => by rw [y] at q4; omega)]
            · rw [q1, nS_nI q2] at q5
              exact q5
            · by_cases g : K' < 85 ∨ K' = 86 ∨ 130 ≤ K'
              · exact g
              · have := h.1.2.2.1 K' (by omega) (by omega); omega
        have hh : ∀ f, f ∈ [18, 19, 20] → 18 ≤ f := by decide
        refine ⟨nI (q_nr (As t) + 1), D, hi, z, s1, s3, f1, h1, e2, ow, np, updA As t (aR (As t) k wet v), Ps, P, L, bt, IA_mut h ht (fun m m1 m2 => z3 m m1 (by omega) (by omega) (by omega)) ?_ ?_ ?_ (aR_WF a5 hn hk hwet hv) ⟨?_, ?_, ?_, ?_, ?_, ?_, ?_⟩ (sb_SH hsb S3 (by rw [ag_ne g (by decide)]; omega) (fun f f1 f2 j _ => by rw [g.1 f (by omega) (fun y => by have := hh f y; omega)]) (Or.inl (by rw [l24, if_pos rfl]; rfl))) ⟨?_, ?_, ?_, ?_, ?_, ?_⟩⟩
        · rw [w3 85 (by omega), m0.2.1 2 (by decide), kr 85 (by omega) (by omega)]
        · rw [w3 85 (by omega), m0.2.1 19 (by decide), kr 85 (by omega) (by omega)]
        · refine OTH_t (s' := s0) (OTH_e (fun m hm => ?_)) ?_
          · have hp1 : ∀ k, k ∈ pers → 85 < k ∧ k < 130 := by decide
            have := hp1 m hm
            rw [w0 m (by omega), kr m (by omega) (by omega)]
          · rw [← hs3]
            exact OTH_t (OTH_t (OTH_t (OTH_k rfl hn) (OTH_k rfl hn)) (OTH_k rfl hn)) (OTH_1 rfl)
        · exact CPc_e (ag_CPc g (by decide) (by decide) (by decide) (by decide) (by decide) (by decide) c1) (fun m m1 m2 => z3 m (by omega) (by omega) (by omega) (by omega))
        · exact CPl_e (ag_CPl g (by decide) (by decide) (by decide) (by decide) (by decide) (by decide) (by decide) (by decide) c2) (fun m m1 m2 => z3 m (by omega) (by omega) (by omega) (by omega))
        · exact CPs_e (ag_CPs g (by decide) (by decide) (by decide) (by decide) (by decide) c3) (fun m m1 m2 => z3 m (by omega) (by omega) (by omega) (by omega))
        · exact CPt_e (ag_CPt g (by decide) (by decide) (by decide) (by decide) (by decide) (by decide) c4) (fun m m1 m2 => z3 m (by omega) (by omega) (by omega) (by omega))
        · exact CPe_e (ag_CPe g (by decide) (by decide) (by decide) (by decide) (by decide) (by decide) c5) (fun m m1 m2 => z3 m (by omega) (by omega) (by omega) (by omega))
        · refine ⟨by rw [l21, ladd_2, aR_nr], by rw [l21, ladd_L (by decide)]; exact c6.2.1, fun j hj => ?_⟩
          rw [aR_nr] at hj
          rw [l22, l22, l22, ladd_0, ladd_1, ladd_22, aR_rt, aR_rw, aR_rv]
          by_cases c : j = q_nr (As t)
          · subst c
            rw [if_pos rfl, if_pos rfl, if_pos rfl, updN_s, updN_s, updN_s]
            exact ⟨rfl, rfl, e3⟩
          · rw [if_neg c, if_neg c, if_neg c, updN_n c, updN_n c, updN_n c]
            exact c6.2.2 j (by omega)
        · exact CPw_e (ag_CPw g (by decide) c7) (fun m m1 m2 => z3 m (by omega) (by omega) (by omega) (by omega))
        · exact RPc_e (ag_RPc g (by decide) (by decide) (by decide) (by decide) (by decide) (by decide) r1) (rest _ (by decide))
        · exact RPo_e (ag_RPo g (by decide) (by decide) (by decide) (by decide) (by decide) r2) (rest _ (by decide))
        · exact RPt_e (ag_RPt g (by decide) (by decide) (by decide) (by decide) (by decide) (by decide) r3) (rest _ (by decide))
        · exact RPe_e (ag_RPe g (by decide) (by decide) (by decide) (by decide) (by decide) (by decide) r4) (rest _ (by decide))
        · refine ⟨by rw [x118, if_pos rfl, aR_nr], fun j hj => ?_⟩
          rw [aR_nr] at hj
          rw [x119, x120, x121, aR_rt, aR_rw, aR_rv]
          by_cases c : j = q_nr (As t)
          · subst c
            rw [if_pos rfl, if_pos rfl, if_pos rfl, updN_s, updN_s, updN_s]
            exact ⟨rfl, rfl, e3⟩
          · rw [if_neg (by omega), if_neg (by omega), if_neg (by omega), updN_n c, updN_n c, updN_n c]
            exact r5.2 j (by omega)
        · exact RPw_e (ag_RPw g (by decide) r6) (rest _ (by decide))
  · refine no ?_ ?_
    · unfold F_BP_read F_BP_read_29
      rw [rcm_0 h1, if_pos rfl]
      by_cases d : okn np p0
      · obtain ⟨t, ht, rfl⟩ := d
        obtain ⟨b1, b2, b3, b4, b5, b6, b7, b8, b9⟩ := h.1.2.2.2.2.2.2.2.2 t ht
        rw [c_planAt_t h.1 ht]
        dsimp only [Option.bind_some]
        rw [pl_8 b1]
        dsimp only [Option.bind_some]
        rw [c_hasTest_f b1 b6 b5 (fun ⟨k, hk, y⟩ => c0 ⟨t, k, ht, hk, rfl, y⟩)]
        dsimp only [Option.bind_some]
        rw [if_pos rfl]
      · rw [c_planAt_f h.1 d]
        rfl
    · have i1 := rps0 i0
      unfold G_M_read G_M_read_30
      rw [r_isTest_f i1 c0, Option.bind_some]
      dsimp only
      rw [if_pos rfl]
theorem c_dropR (hp : PL D hi P) (hcp : CPr s P A) (h1 : q_nr A ≠ 0) (h2 : q_nr A ≤ 24) : F_Plan_dropReading N (mkM h0 B D hi z s) (B + P) = some (nI (q_nr A - 1), (mkM h0 B D hi z (wr1 (wr1 s (P + 21) 2 (nI (q_nr A - 1))) (P + 24) 4 0))) := by
  have e1 : nI (q_nr A) - 1 = nI (q_nr A - 1) := by
    have := nI_pred (q_nr A - 1)
    rw [show q_nr A - 1 + 1 = q_nr A by omega] at this
    exact this
  unfold F_Plan_dropReading F_Ledger_dropTo F_Ledger_dropTo_17 F_Sheet_forgetFits
  rw [pl_rc hp, if_pos rfl, pl_9 hp]
  dsimp only [Option.bind_some]
  rw [c_size (pl_L21 hp), hcp.1]
  dsimp only [Option.bind_some]
  rw [if_neg (nI_ne0 (by omega) (by omega)), pl_9 hp]
  dsimp only [Option.bind_some]
  rw [c_size (pl_L21 hp), hcp.1]
  dsimp only [Option.bind_some]
  rw [e1, lg_rc (pl_L21 hp), if_pos rfl, if_neg (nI_pos (by omega)), lg_2 (pl_L21 hp), hcp.1]
  dsimp only [Option.bind_some]
  rw [if_neg (nI_ge (by omega) (by omega)), lg_w (pl_L21 hp)]
  dsimp only [Option.bind_some]
  rw [pl_11 hp]
  dsimp only [Option.bind_some]
  rw [sh_rc hp, if_pos rfl, sw_4 hp (Or.inl rfl)]
  dsimp only [Option.bind_some]
  rw [pl_9 hp]
  dsimp only [Option.bind_some]
  rw [c_size (pl_L21 hp), wr1_ne (by omega), wr1_at, if_pos rfl]
  rfl
theorem st_unread : STP eb h0 B (fun S => F_BP_unread N S (B + 0) p0) (fun s => G_M_unread N s p0) := by
  intro D hi z s ⟨ow, np, As, Ps, P, L, bt, h⟩
  have h1 := h.1.1
  have i0 := INV_rps h.1
  have no : ∀ (e1 : F_BP_unread N (mkM h0 B D hi z s) (B + 0) p0 = some (-1, mkM h0 B D hi z s)) (e2 : G_M_unread N s p0 = some (-1, wrI s 85 0 0)), ∃ ans D' hi' z' s1 s3, F_BP_unread N (mkM h0 B D hi z s) (B + 0) p0 = some (ans, mkM h0 B D' hi' z' s1) ∧ FX D' hi' ∧ G_M_unread N s1 p0 = some (ans, s3) ∧ IAX eb D' hi' z' s3 := fun e1 e2 => ⟨-1, D, hi, z, s, _, e1, h1, e2, ow, np, As, Ps, P, L, bt, IA_q h (fun _ _ => rfl) h.1.2.2.2.1 Me_0⟩
  by_cases c0 : okn np p0
  · obtain ⟨t, ht, rfl⟩ := c0
    obtain ⟨a1, a2, a3, a4, a5, a6, a7, a8, a9⟩ := h.1.2.2.2.2.2.2.2.2 t ht
    have hnp := i0.2.1
    have hc := a5.1
    unfold WFc at hc
    have pre : F_BP_unread N (mkM h0 B D hi z s) (B + 0) (nI t) = (F_Plan_dropReading N (mkM h0 B D hi z s) (B + Ps t)).bind fun (v4, S3) => some (v4, S3) := by
      unfold F_BP_unread F_BP_unread_18
      rw [rcm_0 h1, if_pos rfl, c_planAt_t h.1 ht]
      rfl
    have ref : ∀ s1, RPs s1 np As → G_M_unread N s1 (nI t) = if nI (q_nr (As t)) = 0 then some (-1, wrI s1 85 0 0) else (stA 0 (wrI s1 85 0 0) 118 7 (nI t) (nI (q_nr (As t)) - 1)).bind fun s5 => (rdA s5 118 7 (nI t)).bind fun v6 => some (v6, s5) := by
      intro s1 hI
      have i1 := rps0 hI
      unfold G_M_unread G_M_unread_22
      rw [r_isPlan_t i1.1 i1.2.1 ht, Option.bind_some]
      dsimp only
      rw [if_neg i10, rdA_nI (by omega) (by decide), Option.bind_some, rp_nr (i1.2.2 t ht).2, Option.bind_some]
    by_cases hz0 : q_nr (As t) = 0
    · refine no ?_ ?_
      · rw [pre]
        unfold F_Plan_dropReading
        rw [pl_rc a1, if_pos rfl, pl_9 a1]
        dsimp only [Option.bind_some]
        rw [c_size (pl_L21 a1), a6.2.2.2.2.2.1.1, hz0]
        dsimp only [Option.bind_some]
        rw [if_pos nI_0]
        rfl
      · rw [ref s i0, hz0]
        exact if_pos nI_0
    · have e1 : nI (q_nr (As t)) - 1 = nI (q_nr (As t) - 1) := by
        have := nI_pred (q_nr (As t) - 1)
        rw [show q_nr (As t) - 1 + 1 = q_nr (As t) by omega] at this
        exact this
      generalize hs1 : wr1 (wr1 s (Ps t + 21) 2 (nI (q_nr (As t) - 1))) (Ps t + 24) 4 0 = s1
      have f1 : F_BP_unread N (mkM h0 B D hi z s) (B + 0) (nI t) = some (nI (q_nr (As t) - 1), mkM h0 B D hi z s1) := by
        rw [pre, c_dropR a1 a6.2.2.2.2.2.1 hz0 (by omega), hs1]
        rfl
      have hq := (pl_A26 a1).1
      have k1 : ∀ m, m ≠ Ps t + 21 → m ≠ Ps t + 24 → s1.1 m = s.1 m := by
        intro m m1 m3
        rw [← hs1, wr1_ne m3, wr1_ne m1]
      have kr : ∀ m, 85 ≤ m → m < 130 → s1.1 m = s.1 m := fun m m1 m2 => k1 m (by omega) (by omega)
      have i1 : RPs s1 np As := RPs_e i0 kr
      have i2 := rps0 i1
      have e2 := ref s1 i1
      rw [if_neg (nI_ne0 (by omega) (by omega)), e1] at e2
      generalize hs0 : wrI s1 85 0 0 = s0 at e2 i2
      rw [stA_nI (by omega) (by decide), Option.bind_some, rdA_nI (by omega) (by decide), Option.bind_some, wr1_at, if_pos rfl] at e2
      generalize hs3 : wr1 s0 118 t (nI (q_nr (As t) - 1)) = s3 at e2
      have m0 : Md [] [0] s1 s0 := by rw [← hs0]; exact Md_f (by decide)
      have w3 : ∀ m, m ≠ 118 → s3.1 m = s0.1 m := by
        intro m hm
        rw [← hs3, wr1_ne hm]
      have w0 : ∀ m, m ≠ 85 → s0.1 m = s1.1 m := fun m hm => m0.1 m (by simp) hm
      have x118 : ∀ j, s3.1 118 j = if j = t then nI (q_nr (As t) - 1) else s0.1 118 j := by
        intro j
        rw [← hs3, wr1_at]
      have y3 : ∀ m, m < 85 ∨ m = 86 ∨ 130 ≤ m → s3.1 m = s1.1 m := fun m hm => by rw [w3 m (by omega), w0 m (by omega)]
      have z3 : ∀ m, m < 85 ∨ m = 86 ∨ 130 ≤ m → m ≠ Ps t + 21 → m ≠ Ps t + 24 → s3.1 m = s.1 m := fun m hm m1 m3 => (y3 m hm).trans (k1 m m1 m3)
      have l21 : ∀ j, s3.1 (Ps t + 21) j = if j = 2 then nI (q_nr (As t) - 1) else s.1 (Ps t + 21) j := by
        intro j
        rw [y3 _ (by omega), ← hs1, wr1_ne (by omega), wr1_at]
      have l24 : ∀ j, s3.1 (Ps t + 24) j = if j = 4 then 0 else s.1 (Ps t + 24) j := by
        intro j
        rw [y3 _ (by omega), ← hs1, wr1_at, wr1_ne (by omega)]
      have g := aU_ag (A := As t)
      have hsb := AG_SB g (by decide) (by decide)
      obtain ⟨c1, c2, c3, c4, c5, c6, c7⟩ := a6
      obtain ⟨r1, r2, r3, r4, r5, r6⟩ := (i2.2.2 t ht).2
      have rest : ∀ (l : List Nat), (∀ m, m ∈ l → m ≠ 118) → ∀ m, m ∈ l → s3.1 m = s0.1 m := fun l hl m hm => w3 m (hl m hm)
      have S3 : SH D hi ow s3 t (Ps t) (As t) := by
        obtain ⟨⟨hC, r, r1, r2, r3⟩, hfr⟩ := a7
        have e25 : s3.1 (Ps t + 25) = s.1 (Ps t + 25) := z3 _ (by omega) (by omega) (by omega)
        refine ⟨⟨COL_e hC e25, r, by rw [l24, if_neg (by decide)]; exact r1, r2, fun j hj => ?_⟩, Or.inl (by rw [l24, if_pos rfl]; rfl)⟩
        obtain ⟨b1, b2, b3⟩ := r3 j hj
        refine ⟨b1, by unfold has; rw [e25]; exact b2, fun w hw => ?_⟩
        unfold cv
        rw [e25]
        rcases hC j (tb_lt r2 hj) with q1 | ⟨K', q1, q2, q3, q4⟩
        · exact absurd q1 b2
        · have q5 := b3 w hw
          unfold cv at q5
          have n1 := a2 21 (by omega)
          have n4 := a2 24 (by omega)
          rw [q1, nS_nI q2, z3 K' ?_ (fun y => by rw [y] at q4; omega) (fun y => by rw [y] at q4; omega)]
          · rw [q1, nS_nI q2] at q5
            exact q5
          · by_cases g : K' < 85 ∨ K' = 86 ∨ 130 ≤ K'
            · exact g
            · have := h.1.2.2.1 K' (by omega) (by omega); omega
      refine ⟨nI (q_nr (As t) - 1), D, hi, z, s1, s3, f1, h1, e2, ow, np, updA As t (aU (As t)), Ps, P, L, bt, IA_mut h ht (fun m m1 m2 => z3 m m1 (by omega) (by omega)) ?_ ?_ ?_ (aU_WF a5) ⟨?_, ?_, ?_, ?_, ?_, ?_, ?_⟩ (sb_SH hsb S3 (by rw [ag_ne g (by decide)]; omega) (fun f f1 f2 j _ => by rw [g.1 f (by omega) (by simp)]) (Or.inl (by rw [l24, if_pos rfl]; rfl))) ⟨?_, ?_, ?_, ?_, ?_, ?_⟩⟩
      · rw [w3 85 (by omega), m0.2.1 2 (by decide), kr 85 (by omega) (by omega)]
      · rw [w3 85 (by omega), m0.2.1 19 (by decide), kr 85 (by omega) (by omega)]
      · refine OTH_t (s' := s0) (OTH_e (fun m hm => ?_)) ?_
        · have hp1 : ∀ k, k ∈ pers → 85 < k ∧ k < 130 := by decide
          have := hp1 m hm
          rw [w0 m (by omega), kr m (by omega) (by omega)]
        · rw [← hs3]
          exact OTH_1 rfl
      · exact CPc_e (ag_CPc g (by decide) (by decide) (by decide) (by decide) (by decide) (by decide) c1) (fun m m1 m2 => z3 m (by omega) (by omega) (by omega))
      · exact CPl_e (ag_CPl g (by decide) (by decide) (by decide) (by decide) (by decide) (by decide) (by decide) (by decide) c2) (fun m m1 m2 => z3 m (by omega) (by omega) (by omega))
      · exact CPs_e (ag_CPs g (by decide) (by decide) (by decide) (by decide) (by decide) c3) (fun m m1 m2 => z3 m (by omega) (by omega) (by omega))
      · exact CPt_e (ag_CPt g (by decide) (by decide) (by decide) (by decide) (by decide) (by decide) c4) (fun m m1 m2 => z3 m (by omega) (by omega) (by omega))
      · exact CPe_e (ag_CPe g (by decide) (by decide) (by decide) (by decide) (by decide) (by decide) c5) (fun m m1 m2 => z3 m (by omega) (by omega) (by omega))
      · refine ⟨by rw [l21, if_pos rfl, aU_nr], by rw [l21, if_neg (by decide)]; exact c6.2.1, fun j hj => ?_⟩
        rw [aU_nr] at hj
        rw [z3 (Ps t + 21 + 1) (by omega) (by omega) (by omega), ag_rt g (by decide), ag_rw g (by decide), ag_rv g (by decide)]
        exact c6.2.2 j (by omega)
      · exact CPw_e (ag_CPw g (by decide) c7) (fun m m1 m2 => z3 m (by omega) (by omega) (by omega))
      · exact RPc_e (ag_RPc g (by decide) (by decide) (by decide) (by decide) (by decide) (by decide) r1) (rest _ (by decide))
      · exact RPo_e (ag_RPo g (by decide) (by decide) (by decide) (by decide) (by decide) r2) (rest _ (by decide))
      · exact RPt_e (ag_RPt g (by decide) (by decide) (by decide) (by decide) (by decide) (by decide) r3) (rest _ (by decide))
      · exact RPe_e (ag_RPe g (by decide) (by decide) (by decide) (by decide) (by decide) (by decide) r4) (rest _ (by decide))
      · refine ⟨by rw [x118, if_pos rfl, aU_nr], fun j hj => ?_⟩
        rw [aU_nr] at hj
        rw [w3 119 (by decide), w3 120 (by decide), w3 121 (by decide), ag_rt g (by decide), ag_rw g (by decide), ag_rv g (by decide)]
        exact r5.2 j (by omega)
      · exact RPw_e (ag_RPw g (by decide) r6) (rest _ (by decide))
  · refine no ?_ ?_
    · unfold F_BP_unread F_BP_unread_18
      rw [rcm_0 h1, if_pos rfl, c_planAt_f h.1 c0]
      rfl
    · have i1 := rps0 i0
      unfold G_M_unread G_M_unread_22
      rw [r_isPlan_f i1.1 i1.2.1 c0, Option.bind_some]
      dsimp only
      rw [if_pos rfl]
end RDS
