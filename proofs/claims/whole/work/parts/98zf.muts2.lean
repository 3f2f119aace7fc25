section SLT
variable {h0 : Nat → pm_C} {B : Nat} {D : Nat → pd} {hi z : Nat} {s : mst} {N np : Nat} {As : Nat → AP} {Ps ow : Nat → Nat} {P L : Nat} {bt : Nat → Nat} {A : AP} {p0 p1 p2 p3 p4 p5 : Int32} {k x p q d t u e y i j v : Nat} {eb : Nat}
theorem c_addS (hp : PL D hi P) (hcp : CP s P A) (hA : WF A) (hA' : WF (aS A k x y)) (hn : q_ns A < 6) : ∃ s1, F_Plan_addSlip N (mkM h0 B D hi z s) (B + P) (nI k) (nI x) (nI y) = some (nI (q_ns A), (mkM h0 B D hi z (s1))) ∧ (∀ m, ¬ (P + 10 < m ∧ m ≤ P + 16) → m ≠ P + 24 → s1.1 m = s.1 m) ∧ (∀ m, P + 15 ≤ m → m ≤ P + 16 → s1.1 m = (ladd s (P + 15) (q_ns A) (nI k) (nI x) (nI y) 0 0).1 m) ∧ CL s1 (P + 10) (q_ly (aS A k x y) (q_nq A + q_ns A + 1)) ∧ ∀ i, s1.1 (P + 24) i = if i = 4 then 0 else if i = 2 then 0 else s.1 (P + 24) i := by
  have g := aS_ag (A := A) (k := k) (x := x) (y := y)
  have hle : q_nq A + q_ns A < q_nq (aS A k x y) + q_ns (aS A k x y) := by rw [ag_nq g (by decide), aS_ns]; omega
  have hT0 : CL s (P + 10) (q_ly (aS A k x y) (q_nq A + q_ns A)) := by
    rw [aS_ly _ (Nat.le_refl _), ← lw0]
    exact hcp.2.1.2.2
  have hTL : CL (ladd s (P + 15) (q_ns A) (nI k) (nI x) (nI y) 0 0) (P + 10) (q_ly (aS A k x y) (q_nq A + q_ns A)) := by
    unfold CL at hT0 ⊢
    rw [ladd_ne (by omega) (by omega), ladd_ne (by omega) (by omega), ladd_ne (by omega) (by omega), ladd_ne (by omega) (by omega)]
    exact hT0
  obtain ⟨s2, w1, w2, w3⟩ := c_work (N := N) (h0 := h0) (B := B) (z := z) hA' hle (LV_ly hA' _ (by omega)) (LX_ly hA' _ (by omega)) (pl_T10 hp) hTL
  rw [aS_ok, aS_os, aS_ow, updN_s, updN_s, updN_s] at w1
  have f1 : ∀ m, ¬ (P + 10 < m ∧ m ≤ P + 10 + 4) → s2.1 m = (ladd s (P + 15) (q_ns A) (nI k) (nI x) (nI y) 0 0).1 m := fun m hm => w2.1 m hm
  refine ⟨wr1 (wr1 s2 (P + 24) 2 0) (P + 24) 4 0, ?_, ?_, ?_, ?_, ?_⟩
  · unfold F_Plan_addSlip
    rw [pl_rc hp, if_pos rfl, pl_6 hp, Option.bind_some]
    dsimp only
    rw [c_add (pl_L15 hp) hcp.2.2.1.1 hcp.2.2.1.2.1 hn (by decide), Option.bind_some]
    dsimp only
    rw [if_neg (nI_n1 (by omega)), pl_5 hp, Option.bind_some]
    dsimp only
    rw [w1, Option.bind_some, pl_11 hp, Option.bind_some]
    dsimp only
    unfold F_Sheet_forgetAll
    rw [sh_rc hp, if_pos rfl, sw_2 hp, Option.bind_some, sw_4 hp (Or.inl rfl)]
    rfl
  · intro m m1 m2
    rw [wr1_ne m2, wr1_ne m2, f1 m (by omega), ladd_ne (by omega) (by omega)]
  · intro m m1 m2
    rw [wr1_ne (by omega), wr1_ne (by omega), f1 m (by omega)]
  · have w3' : CL s2 (P + 10) (q_ly (aS A k x y) (q_nq A + q_ns A + 1)) := w3
    unfold CL at w3' ⊢
    rw [wr1_ne (by omega), wr1_ne (by omega), wr1_ne (by omega), wr1_ne (by omega), wr1_ne (by omega), wr1_ne (by omega), wr1_ne (by omega), wr1_ne (by omega)]
    exact w3'
  · intro i
    rw [wr1_at, wr1_at, f1 (P + 24) (by omega), ladd_ne (by omega) (by omega)]
theorem c_addS_f (hp : PL D hi P) (hcp : CP s P A) (hn : q_ns A = 6) : F_Plan_addSlip N (mkM h0 B D hi z s) (B + P) p1 p2 p3 = some (-1, (mkM h0 B D hi z s)) := by
  unfold F_Plan_addSlip
  rw [pl_rc hp, if_pos rfl, pl_6 hp, Option.bind_some]
  dsimp only
  rw [c_add_f (pl_L15 hp) hcp.2.2.1.1 hcp.2.2.1.2.1 (by omega) (by omega), Option.bind_some]
  dsimp only
  rw [if_pos rfl]
  rfl
theorem L_60' : (60 : Int32) = nI 60 := rfl
theorem r_tell (ht : t < 7) (hn : k < 60) (e : s.1 93 t = nI k) : G_M_tell N s (nI t) p1 p2 p3 p4 p5 = some (wr1 (wr1 (wr1 (wr1 (wr1 (wr1 s 94 (60 * t + k) p1) 95 (60 * t + k) p2) 96 (60 * t + k) p3) 97 (60 * t + k) p4) 98 (60 * t + k) p5) 93 t (nI (k + 1))) := by
  unfold G_M_tell
  rw [rdA_nI (by omega) (by decide), Option.bind_some, e, L_60, nI_mul, nI_add, stA_nI (by omega) (by decide), Option.bind_some, stA_nI (by omega) (by decide), Option.bind_some, stA_nI (by omega) (by decide), Option.bind_some, stA_nI (by omega) (by decide), Option.bind_some, stA_nI (by omega) (by decide), Option.bind_some, rdA_nI (by omega) (by decide), Option.bind_some]
  rw [wr1_ne (by decide), wr1_ne (by decide), wr1_ne (by decide), wr1_ne (by decide), wr1_ne (by decide), e, nI_1, stA_nI (by omega) (by decide), Option.bind_some]
theorem st_slip : STP eb h0 B (fun S => F_BP_slip N S (B + 0) p0 p1 p2 p3 p4 p5) (fun s => G_M_slip N s p0 p1 p2 p3 p4 p5) := by
  intro D hi z s ⟨ow, np, As, Ps, P, L, bt, h⟩
  have h1 := h.1.1
  have i0 := INV_rps h.1
  have no : ∀ (e1 : F_BP_slip N (mkM h0 B D hi z s) (B + 0) p0 p1 p2 p3 p4 p5 = some (-1, mkM h0 B D hi z s)) (e2 : G_M_slip N s p0 p1 p2 p3 p4 p5 = some (-1, wrI s 85 0 0)), ∃ ans D' hi' z' s1 s3, F_BP_slip N (mkM h0 B D hi z s) (B + 0) p0 p1 p2 p3 p4 p5 = some (ans, mkM h0 B D' hi' z' s1) ∧ FX D' hi' ∧ G_M_slip N s1 p0 p1 p2 p3 p4 p5 = some (ans, s3) ∧ IAX eb D' hi' z' s3 := fun e1 e2 => ⟨-1, D, hi, z, s, _, e1, h1, e2, ow, np, As, Ps, P, L, bt, IA_q h (fun _ _ => rfl) h.1.2.2.2.1 Me_0⟩
  by_cases c0 : okn np p0
  · obtain ⟨t, ht, rfl⟩ := c0
    obtain ⟨a1, a2, a3, a4, a5, a6, a7, a8, a9⟩ := h.1.2.2.2.2.2.2.2.2 t ht
    have hnp := i0.2.1
    have hc := a5.1
    unfold WFc at hc
    rcases c_slip (N := N) (h0 := h0) (B := B) (z := z) (p1 := p1) (p2 := p2) (p3 := p3) (p4 := p4) (p5 := p5) h.1 ht with ⟨k, x, y, hT, cls⟩ | ⟨hno, cls⟩
    · by_cases hfull : q_ns (As t) = 6
      · refine no ?_ (r_slip_f i0 ht (Or.inl hfull))
        rw [cls, c_addS_f a1 a6 hfull]
      · have hn : q_ns (As t) < 6 := by omega
        have hWF := aS_WF a5 hn hT
        obtain ⟨t1, t2, t3, t4, t5, t6, t7⟩ := id hT
        rw [t1] at cls
        obtain ⟨s1, f0, k1, kL, kC, k24⟩ := c_addS (N := N) (h0 := h0) (B := B) (z := z) a1 a6 a5 hWF hn
        have f1 : F_BP_slip N (mkM h0 B D hi z s) (B + 0) (nI t) p1 p2 p3 p4 p5 = some (nI (q_ns (As t)), mkM h0 B D hi z s1) := by
          rw [← f0, ← cls, t1]
        have hq := (pl_A26 a1).1
        have kr : ∀ m, 85 ≤ m → m < 130 → s1.1 m = s.1 m := fun m m1 m2 => k1 m (by omega) (by omega)
        have i1 : RPs s1 np As := RPs_e i0 kr
        have i2 := rps0 i1
        have e2 := r_slip (N := N) i1 ht hfull hT
        have e93 := rp_no (i2.2.2 t ht).2
        have e99 := rp_ns (i2.2.2 t ht).2
        have e3 := r_tell (N := N) (p1 := p1) (p2 := p2) (p3 := p3) (p4 := p4) (p5 := p5) (show t < 7 by omega) (show q_nq (As t) + q_ns (As t) < 60 by omega) e93
        generalize hs0 : wrI s1 85 0 0 = s0 at e2 e3 i2 e93 e99
        generalize hc1 : q_nq (As t) + q_ns (As t) = c at e3
        generalize hsa : wr1 (wr1 (wr1 (wr1 (wr1 (wr1 s0 94 (60 * t + c) p1) 95 (60 * t + c) p2) 96 (60 * t + c) p3) 97 (60 * t + c) p4) 98 (60 * t + c) p5) 93 t (nI (c + 1)) = sa at e3
        have a99 : sa.1 99 = s0.1 99 := by
          rw [← hsa, wr1_ne (by decide), wr1_ne (by decide), wr1_ne (by decide), wr1_ne (by decide), wr1_ne (by decide), wr1_ne (by decide)]
        generalize hs3 : wr1 sa 99 t (nI (q_ns (As t) + 1)) = s3
        have e4 : G_M_slip N s1 (nI t) p1 p2 p3 p4 p5 = some (nI (q_ns (As t)), s3) := by
          rw [e2]
          unfold G_M_slip_104
          rw [e3, Option.bind_some, rdA_nI (by omega) (by decide), Option.bind_some, a99, e99, nI_1, stA_nI (by omega) (by decide), Option.bind_some, rdA_nI (by omega) (by decide), Option.bind_some, wr1_at, if_pos rfl, nI_pred, hs3]
        have m0 : Md [] [0] s1 s0 := by rw [← hs0]; exact Md_f (by decide)
        have w3 : ∀ m, m < 93 ∨ 99 < m → s3.1 m = s0.1 m := by
          intro m hm
          rw [← hs3, wr1_ne (by omega), ← hsa, wr1_ne (by omega), wr1_ne (by omega), wr1_ne (by omega), wr1_ne (by omega), wr1_ne (by omega), wr1_ne (by omega)]
        have w0 : ∀ m, m ≠ 85 → s0.1 m = s1.1 m := fun m hm => m0.1 m (by simp) hm
        have x94 : ∀ j, s3.1 94 j = if j = 60 * t + c then p1 else s0.1 94 j := by
          intro j
          rw [← hs3, wr1_ne (by decide), ← hsa, wr1_ne (by decide), wr1_ne (by decide), wr1_ne (by decide), wr1_ne (by decide), wr1_ne (by decide), wr1_at]
        have x95 : ∀ j, s3.1 95 j = if j = 60 * t + c then p2 else s0.1 95 j := by
          intro j
          rw [← hs3, wr1_ne (by decide), ← hsa, wr1_ne (by decide), wr1_ne (by decide), wr1_ne (by decide), wr1_ne (by decide), wr1_at, wr1_ne (by decide)]
        have x96 : ∀ j, s3.1 96 j = if j = 60 * t + c then p3 else s0.1 96 j := by
          intro j
          rw [← hs3, wr1_ne (by decide), ← hsa, wr1_ne (by decide), wr1_ne (by decide), wr1_ne (by decide), wr1_at, wr1_ne (by decide), wr1_ne (by decide)]
        have x97 : ∀ j, s3.1 97 j = if j = 60 * t + c then p4 else s0.1 97 j := by
          intro j
          rw [← hs3, wr1_ne (by decide), ← hsa, wr1_ne (by decide), wr1_ne (by decide), wr1_at, wr1_ne (by decide), wr1_ne (by decide), wr1_ne (by decide)]
        have x98 : ∀ j, s3.1 98 j = if j = 60 * t + c then p5 else s0.1 98 j := by
          intro j
          rw [← hs3, wr1_ne (by decide), ← hsa, wr1_ne (by decide), wr1_at, wr1_ne (by decide), wr1_ne (by decide), wr1_ne (by decide), wr1_ne (by decide)]
        have x93 : ∀ j, s3.1 93 j = if j = t then nI (c + 1) else s0.1 93 j := by
          intro j
          rw [← hs3, wr1_ne (by decide), ← hsa, wr1_at, wr1_ne (by decide), wr1_ne (by decide), wr1_ne (by decide), wr1_ne (by decide), wr1_ne (by decide)]
        have x99 : ∀ j, s3.1 99 j = if j = t then nI (q_ns (As t) + 1) else s0.1 99 j := by
          intro j
          rw [← hs3, wr1_at, a99]
        have y3 : ∀ m, m < 85 ∨ m = 86 ∨ 130 ≤ m → s3.1 m = s1.1 m := fun m hm => by rw [w3 m (by omega), w0 m (by omega)]
        have z3 : ∀ m, m < 85 ∨ m = 86 ∨ 130 ≤ m → ¬ (Ps t + 10 < m ∧ m ≤ Ps t + 16) → m ≠ Ps t + 24 → s3.1 m = s.1 m := fun m hm m1 m2 => (y3 m hm).trans (k1 m m1 m2)
        have g := aS_ag (A := As t) (k := k) (x := x) (y := y)
        obtain ⟨c1, c2, c3, c4, c5, c6, c7⟩ := a6
        obtain ⟨r1, r2, r3, r4, r5, r6⟩ := (i2.2.2 t ht).2
        have rest : ∀ (l : List Nat), (∀ m, m ∈ l → m < 93 ∨ 99 < m) → ∀ m, m ∈ l → s3.1 m = s0.1 m := fun l hl m hm => w3 m (hl m hm)
        have l24 : ∀ i, s3.1 (Ps t + 24) i = if i = 4 then 0 else if i = 2 then 0 else s.1 (Ps t + 24) i := by
          intro i
          rw [y3 _ (by omega), k24]
        have l15 : ∀ i, s3.1 (Ps t + 15) i = (ladd s (Ps t + 15) (q_ns (As t)) (nI k) (nI x) (nI y) 0 0).1 (Ps t + 15) i := by
          intro i
          rw [y3 _ (by omega), kL _ (by omega) (by omega)]
        have l16 : ∀ i, s3.1 (Ps t + 15 + 1) i = (ladd s (Ps t + 15) (q_ns (As t)) (nI k) (nI x) (nI y) 0 0).1 (Ps t + 15 + 1) i := by
          intro i
          rw [y3 _ (by omega), kL _ (by omega) (by omega)]
        refine ⟨nI (q_ns (As t)), D, hi, z, s1, s3, f1, h1, e4, ow, np, updA As t (aS (As t) k x y), Ps, P, L, bt, IA_mut h ht (fun m m1 m2 => z3 m m1 (by omega) (by omega)) ?_ ?_ ?_ hWF ⟨?_, ⟨?_, ?_, ?_⟩, ?_, ?_, ?_, ?_, ?_⟩ (SH_0 (COL_e a7.1.1 (z3 _ (by omega) (by omega) (by omega))) (by rw [l24, if_neg (by decide), if_pos rfl]; rfl) (by rw [l24, if_pos rfl]; rfl)) ⟨?_, ?_, ?_, ?_, ?_, ?_⟩⟩
        · rw [w3 85 (by omega), m0.2.1 2 (by decide), kr 85 (by omega) (by omega)]
        · rw [w3 85 (by omega), m0.2.1 19 (by decide), kr 85 (by omega) (by omega)]
        · refine OTH_t (s' := s0) (OTH_e (fun m hm => ?_)) ?_
          · have hp1 : ∀ k, k ∈ pers → 85 < k ∧ k < 130 := by decide
            have := hp1 m hm
            rw [w0 m (by omega), kr m (by omega) (by omega)]
          · rw [← hs3, ← hsa]
            have hc60 : c < 60 := by omega
            exact OTH_t (OTH_t (OTH_t (OTH_t (OTH_t (OTH_t (OTH_k rfl hc60) (OTH_k rfl hc60)) (OTH_k rfl hc60)) (OTH_k rfl hc60)) (OTH_k rfl hc60)) (OTH_1 rfl)) (OTH_1 rfl)
        · exact CPc_e (ag_CPc g (by decide) (by decide) (by decide) (by decide) (by decide) (by decide) c1) (fun m m1 m2 => z3 m (by omega) (by omega) (by omega))
        · intro i hi
          rw [ag_nc g (by decide)] at hi
          rw [z3 _ (by omega) (by omega) (by omega), ag_f0 g (by decide) (by decide)]
          exact c2.1 i hi
        · rw [ag_nq g (by decide), aS_ly _ (by omega)]
          have := c2.2.1
          unfold CL at this ⊢
          rw [z3 _ (by omega) (by omega) (by omega), z3 _ (by omega) (by omega) (by omega), z3 _ (by omega) (by omega) (by omega), z3 _ (by omega) (by omega) (by omega)]
          exact this
        · rw [lw0, ag_nq g (by decide), aS_ns]
          unfold CL at kC ⊢
          rw [y3 _ (by omega), y3 _ (by omega), y3 _ (by omega), y3 _ (by omega)]
          exact kC
        · refine ⟨by rw [l15, ladd_2, aS_ns], by rw [l15, ladd_L (by decide)]; exact c3.2.1, fun i hi => ?_⟩
          rw [aS_ns] at hi
          rw [l16, l16, l16, ladd_0, ladd_1, ladd_22, aS_ok, aS_os, aS_ow, ag_nq g (by decide)]
          by_cases cc : i = q_ns (As t)
          · subst cc
            rw [if_pos rfl, if_pos rfl, if_pos rfl, updN_s, updN_s, updN_s]
            exact ⟨rfl, rfl, rfl⟩
          · rw [if_neg cc, if_neg cc, if_neg cc, updN_n (by omega), updN_n (by omega), updN_n (by omega)]
            exact c3.2.2 i (by omega)
        · exact CPt_e (ag_CPt g (by decide) (by decide) (by decide) (by decide) (by decide) (by decide) c4) (fun m m1 m2 => z3 m (by omega) (by omega) (by omega))
        · exact CPe_e (ag_CPe g (by decide) (by decide) (by decide) (by decide) (by decide) (by decide) c5) (fun m m1 m2 => z3 m (by omega) (by omega) (by omega))
        · exact CPr_e (ag_CPr g (by decide) (by decide) (by decide) (by decide) c6) (fun m m1 m2 => z3 m (by omega) (by omega) (by omega))
        · exact CPw_e (ag_CPw g (by decide) c7) (fun m m1 m2 => z3 m (by omega) (by omega) (by omega))
        · exact RPc_e (ag_RPc g (by decide) (by decide) (by decide) (by decide) (by decide) (by decide) r1) (rest _ (by decide))
        · refine ⟨by rw [x93, if_pos rfl, ag_nq g (by decide), aS_ns, ← hc1]; rfl, by rw [x99, if_pos rfl, aS_ns], fun i hi => ?_⟩
          rw [ag_nq g (by decide), aS_ns] at hi
          rw [x94, x95, x96, x97, x98, aS_ok, aS_os, aS_ow, hc1]
          by_cases cc : i = c
          · subst cc
            rw [if_pos rfl, if_pos rfl, if_pos rfl, if_pos rfl, if_pos rfl, updN_s, updN_s, updN_s]
            refine ⟨t1, t4, t5, ?_, fun e => (t6 e).2.2.1⟩
            by_cases ck : k = 0
            · rw [if_pos ck]; exact (t6 ck).2.1
            · rw [if_neg ck]; exact (t7 (by omega)).2
          · have hne : ¬ 60 * t + i = 60 * t + c := by omega
            rw [if_neg hne, if_neg hne, if_neg hne, if_neg hne, if_neg hne, updN_n cc, updN_n cc, updN_n cc]
            exact r2.2.2 i (by omega)
        · exact RPt_e (ag_RPt g (by decide) (by decide) (by decide) (by decide) (by decide) (by decide) r3) (rest _ (by decide))
        · exact RPe_e (ag_RPe g (by decide) (by decide) (by decide) (by decide) (by decide) (by decide) r4) (rest _ (by decide))
        · exact RPr_e (ag_RPr g (by decide) (by decide) (by decide) (by decide) r5) (rest _ (by decide))
        · exact RPw_e (ag_RPw g (by decide) r6) (rest _ (by decide))
    · exact no cls (r_slip_f i0 ht (Or.inr hno))
  · refine no ?_ ?_
    · unfold F_BP_slip F_BP_slip_23
      rw [rcm_0 h1, if_pos rfl, c_planAt_f h.1 c0]
      rfl
    · have i1 := rps0 i0
      unfold G_M_slip G_M_slip_44
      rw [r_isPlan_f i1.1 i1.2.1 c0, Option.bind_some]
      dsimp only
      rw [if_pos rfl]
end SLT
