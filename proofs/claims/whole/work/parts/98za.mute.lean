/-! ===== a row more: test, read; one less: unread ===== -/
theorem OTH_k {t m c v : Nat} {s : mst} {y : Int32} (hb : bz m = c) (hv : v < c) : OTH t s (wr1 s m (c * t + v) y) := by
  have := OTH_w (t := t) (k := m) (v := v) (s := s) (x := y) (by rw [hb]; exact hv)
  rw [hb] at this
  exact this
theorem OTH_1 {t m : Nat} {s : mst} {y : Int32} (hb : bz m = 1) : OTH t s (wr1 s m t y) := by
  have := OTH_k (t := t) (m := m) (c := 1) (v := 0) (s := s) (y := y) hb (by decide)
  rw [show 1 * t + 0 = t by omega] at this
  exact this
theorem AG_SB {A A' : AP} {fs cs : List Nat} (h : AG A A' fs cs) (hf : ∀ f, f ∈ fs → 13 ≤ f) (hc : ∀ i, i ∈ cs → 5 ≤ i) : SB A A' := ⟨fun i hi => h.2 i (fun y => by have := hc i y; omega), fun f f1 f2 => h.1 f (by omega) (fun y => by have := hf f y; omega)⟩
def aE (A : AP) (k x p q d : Nat) : AP := upF (upF (upF (upF (upF (upF A 0 (updN (A 0) 5 (q_ne A + 1))) 13 (updN (A 13) (q_ne A) k)) 14 (updN (A 14) (q_ne A) x)) 15 (updN (A 15) (q_ne A) p)) 16 (updN (A 16) (q_ne A) q)) 17 (updN (A 17) (q_ne A) d)
def aR (A : AP) (k x p : Nat) : AP := upF (upF (upF (upF A 0 (updN (A 0) 6 (q_nr A + 1))) 18 (updN (A 18) (q_nr A) k)) 19 (updN (A 19) (q_nr A) x)) 20 (updN (A 20) (q_nr A) p)
def aU (A : AP) : AP := upF A 0 (updN (A 0) 6 (q_nr A - 1))
def TSn (A : AP) (p1 p2 p3 p4 p5 p6 : Int32) (k u e y i : Nat) : Prop := p1 = nI k ∧ k ≤ 1 ∧ q_st A u ∧ p2 = nI (u / 8) ∧ p3 = nI (u % 8) ∧ p4 = nI e ∧ e ≤ 1 ∧ y < q_nc A ∧ i ≤ 1 ∧ (k = 0 → p5 = nI y ∧ p6 = nI i) ∧ (k = 1 → y = u / 8 ∧ i = e)
section TST
variable {h0 : Nat → pm_C} {B : Nat} {D : Nat → pd} {hi z : Nat} {s : mst} {N np : Nat} {As : Nat → AP} {Ps ow : Nat → Nat} {P L : Nat} {bt : Nat → Nat} {A : AP} {p0 p1 p2 p3 p4 p5 p6 : Int32} {k x p q d t u e y i : Nat} {eb : Nat}
theorem aE_ag : AG A (aE A k x p q d) [13, 14, 15, 16, 17] [5] := by
  refine ⟨fun f f0 hf => ?_, fun i hi => ?_⟩
  · unfold aE
    rw [upF_n (fun e => hf (by rw [e]; decide)), upF_n (fun e => hf (by rw [e]; decide)), upF_n (fun e => hf (by rw [e]; decide)), upF_n (fun e => hf (by rw [e]; decide)), upF_n (fun e => hf (by rw [e]; decide)), upF_n f0]
  · unfold aE
    rw [upF_n (by decide), upF_n (by decide), upF_n (by decide), upF_n (by decide), upF_n (by decide), upF_s]
    exact updN_n (fun e => hi (by rw [e]; decide))
theorem aE_ne : q_ne (aE A k x p q d) = q_ne A + 1 := by
  show aE A k x p q d 0 5 = _
  unfold aE
  rw [upF_n (by decide), upF_n (by decide), upF_n (by decide), upF_n (by decide), upF_n (by decide), upF_s, updN_s]
theorem aE_ek : q_ek (aE A k x p q d) = updN (q_ek A) (q_ne A) k := by
  show aE A k x p q d 13 = _
  unfold aE
  rw [upF_n (by decide), upF_n (by decide), upF_n (by decide), upF_n (by decide), upF_s]
  rfl
theorem aE_es : q_es (aE A k x p q d) = updN (q_es A) (q_ne A) x := by
  show aE A k x p q d 14 = _
  unfold aE
  rw [upF_n (by decide), upF_n (by decide), upF_n (by decide), upF_s]
  rfl
theorem aE_ee : q_ee (aE A k x p q d) = updN (q_ee A) (q_ne A) p := by
  show aE A k x p q d 15 = _
  unfold aE
  rw [upF_n (by decide), upF_n (by decide), upF_s]
  rfl
theorem aE_ey : q_ey (aE A k x p q d) = updN (q_ey A) (q_ne A) q := by
  show aE A k x p q d 16 = _
  unfold aE
  rw [upF_n (by decide), upF_s]
  rfl
theorem aE_ei : q_ei (aE A k x p q d) = updN (q_ei A) (q_ne A) d := by
  show aE A k x p q d 17 = _
  unfold aE
  rw [upF_s]
  rfl
theorem aE_f : ∀ f, 13 ≤ f → f ≤ 17 → ∀ j, j < q_ne A → aE A k x p q d f j = A f j := by
  intro f f1 f2 j hj
  rcases (show f = 13 ∨ f = 14 ∨ f = 15 ∨ f = 16 ∨ f = 17 by omega) with c | c | c | c | c <;> subst c
  · have := congrFun (aE_ek (A := A) (k := k) (x := x) (p := p) (q := q) (d := d)) j
    rw [updN_n (by omega)] at this
    exact this
  · have := congrFun (aE_es (A := A) (k := k) (x := x) (p := p) (q := q) (d := d)) j
    rw [updN_n (by omega)] at this
    exact this
  · have := congrFun (aE_ee (A := A) (k := k) (x := x) (p := p) (q := q) (d := d)) j
    rw [updN_n (by omega)] at this
    exact this
  · have := congrFun (aE_ey (A := A) (k := k) (x := x) (p := p) (q := q) (d := d)) j
    rw [updN_n (by omega)] at this
    exact this
  · have := congrFun (aE_ei (A := A) (k := k) (x := x) (p := p) (q := q) (d := d)) j
    rw [updN_n (by omega)] at this
    exact this
theorem aE_WF (hA : WF A) (hn : q_ne A < 12) (h : TSn A p1 p2 p3 p4 p5 p6 k u e y i) : WF (aE A k u e y i) := by
  have g := aE_ag (A := A) (k := k) (x := u) (p := e) (q := y) (d := i)
  have hsb := AG_SB g (by decide) (by decide)
  have a1 := hA.1
  unfold WFc at a1
  refine sb_WF hsb hA (by rw [aE_ne]; omega) (by rw [ag_nr g (by decide)]; omega) ?_ ?_ (ag_WFw g (by decide) hA.2.2.2.2.2.2.2)
  · intro j hj
    rw [aE_ne] at hj
    rw [aE_ek, aE_es, aE_ee, aE_ey, aE_ei, ag_st g (by decide) (by decide), ag_nc g (by decide)]
    by_cases c : j = q_ne A
    · subst c
      rw [updN_s, updN_s, updN_s, updN_s, updN_s]
      obtain ⟨_, h2, h3, _, _, _, h7, h8, h9, _, h11⟩ := h
      exact ⟨h2, h3, h7, h8, h9, h11⟩
    · rw [updN_n c, updN_n c, updN_n c, updN_n c, updN_n c]
      exact hA.2.2.2.2.2.1 j (by omega)
  · intro j hj
    rw [ag_nr g (by decide)] at hj
    rw [aE_ne, ag_rt g (by decide), ag_rw g (by decide), ag_rv g (by decide)]
    have := hA.2.2.2.2.2.2.1 j hj
    exact ⟨by omega, this.2⟩
/-- what the class asks of a TEST -/
theorem c_test (h : INV D hi ow s np As Ps) (ht : t < np) : (∃ k u e y i, TSn (As t) p1 p2 p3 p4 p5 p6 k u e y i ∧ F_BP_test N (mkM h0 B D hi z s) (B + 0) (nI t) p1 p2 p3 p4 p5 p6 = F_Ledger_add N (mkM h0 B D hi z s) (B + (Ps t + 19)) p1 (nI u) p4 (nI y) (nI i)) ∨ ((¬ ∃ k u e y i, TSn (As t) p1 p2 p3 p4 p5 p6 k u e y i) ∧ F_BP_test N (mkM h0 B D hi z s) (B + 0) (nI t) p1 p2 p3 p4 p5 p6 = some (-1, (mkM h0 B D hi z s))) := by
  have h1 := h.1
  obtain ⟨a1, a2, a3, a4, a5, a6, a7, a8, a9⟩ := h.2.2.2.2.2.2.2.2 t ht
  have hc := a5.1
  unfold WFc at hc
  have b3 : ∀ X : Option (Int32 × pm_S), (X.bind fun (v15, S14) => some (v15, S14)) = X := by
    intro X
    cases X <;> rfl
  unfold F_BP_test F_BP_test_31 F_BP_test_59
  rw [rcm_0 h1, if_pos rfl, c_planAt_t h ht]
  dsimp only [Option.bind_some]
  by_cases c : ∃ x p, x < q_nc (As t) ∧ p < q_pr (As t) x ∧ p2 = nI x ∧ p3 = nI p
  · obtain ⟨x, p, hx, hp, rfl, rfl⟩ := c
    have hxx := a5.2.1 x hx
    have hdiv : (8 * x + p) / 8 = x := by omega
    have hmod : (8 * x + p) % 8 = p := by omega
    have hst : q_st (As t) (8 * x + p) := by unfold q_st; rw [hdiv, hmod]; exact ⟨hx, hp⟩
    rw [c_hasPair_t a1 a6 a5 hx hp]
    dsimp only [Option.bind_some]
    rw [if_neg i10]
    by_cases c4 : okn 2 p4
    · obtain ⟨e, he, rfl⟩ := c4
      rw [c_isEnd_t he]
      dsimp only [Option.bind_some]
      rw [if_neg i10]
      by_cases d0 : p1 = 0
      · rw [if_pos d0]
        by_cases c5 : okn (q_nc (As t)) p5
        · obtain ⟨y, hy, rfl⟩ := c5
          rw [c_hasCable_t a1 a6 a5 hy]
          dsimp only [Option.bind_some]
          rw [if_neg i10]
          by_cases c6 : okn 2 p6
          · obtain ⟨i, hi, rfl⟩ := c6
            rw [c_isEnd_t hi]
            dsimp only [Option.bind_some]
            rw [if_neg i10]
            refine Or.inl ⟨0, 8 * x + p, e, y, i, ⟨d0, by omega, hst, by rw [hdiv], by rw [hmod], rfl, by omega, hy, by omega, fun _ => ⟨rfl, rfl⟩, fun y => by omega⟩, ?_⟩
            unfold F_BP_test_60 F_BP_test_74 F_BP_test_99_2 F_BP_test_111_2
            rw [if_neg i10, pl_8 a1]
            dsimp only [Option.bind_some]
            rw [c_siteOf]
            dsimp only [Option.bind_some]
            rw [if_neg i10, if_neg i10]
            exact b3 _
          · rw [c_isEnd_f c6]
            dsimp only [Option.bind_some]
            rw [if_pos rfl]
            unfold F_BP_test_60
            rw [if_pos rfl, if_neg (show ¬ p1 = 1 by rw [d0]; decide)]
            refine Or.inr ⟨?_, rfl⟩
            intro ⟨k, u, e', y', i, t1, t2, t3, t4, t5, t6, t7, t8, t9, t10, t11⟩
            have k0 : k = 0 := by
              have := d0.symm.trans t1
              exact ((nI_eq (a := 0) (by decide) (by omega)).mp this).symm
            exact c6 ⟨i, by omega, (t10 k0).2⟩
        · rw [c_hasCable_f a1 a6 a5 c5]
          dsimp only [Option.bind_some]
          rw [if_pos rfl]
          unfold F_BP_test_60
          rw [if_pos rfl, if_neg (show ¬ p1 = 1 by rw [d0]; decide)]
          refine Or.inr ⟨?_, rfl⟩
          intro ⟨k, u, e', y', i, t1, t2, t3, t4, t5, t6, t7, t8, t9, t10, t11⟩
          have k0 : k = 0 := by
            have := d0.symm.trans t1
            exact ((nI_eq (a := 0) (by decide) (by omega)).mp this).symm
          exact c5 ⟨y', t8, (t10 k0).1⟩
      · rw [if_neg d0]
        unfold F_BP_test_60
        rw [if_pos rfl]
        by_cases d1 : p1 = 1
        · rw [if_pos d1]
          refine Or.inl ⟨1, 8 * x + p, e, x, e, ⟨d1, by omega, hst, by rw [hdiv], by rw [hmod], rfl, by omega, hx, by omega, fun y => by omega, fun _ => ⟨by rw [hdiv], rfl⟩⟩, ?_⟩
          unfold F_BP_test_74 F_BP_test_99_2 F_BP_test_111_2
          rw [pl_8 a1]
          dsimp only [Option.bind_some]
          rw [c_siteOf]
          dsimp only [Option.bind_some]
          rw [if_pos rfl, if_pos rfl]
          exact b3 _
        · rw [if_neg d1]
          refine Or.inr ⟨?_, rfl⟩
          intro ⟨k, u, e', y', i, t1, t2, t3, t4, t5, t6, t7, t8, t9, t10, t11⟩
          rcases (show k = 0 ∨ k = 1 by omega) with c | c
          · exact d0 (by rw [t1, c]; rfl)
          · exact d1 (by rw [t1, c]; rfl)
    · rw [c_isEnd_f c4]
      dsimp only [Option.bind_some]
      rw [if_pos rfl]
      refine Or.inr ⟨?_, rfl⟩
      intro ⟨k, u, e', y', i, t1, t2, t3, t4, t5, t6, t7, t8, t9, t10, t11⟩
      exact c4 ⟨e', by omega, t6⟩
  · rw [c_hasPair_f a1 a6 a5 c]
    dsimp only [Option.bind_some]
    rw [if_pos rfl]
    refine Or.inr ⟨?_, rfl⟩
    intro ⟨k, u, e', y', i, t1, t2, t3, t4, t5, t6, t7, t8, t9, t10, t11⟩
    exact c ⟨u / 8, u % 8, t3.1, t3.2, t4, t5⟩
/-- what the reference asks of a TEST -/
theorem r_test (h : RPs s np As) (ht : t < np) (hn : q_ne (As t) ≠ 12) : (∃ k u e y i, TSn (As t) p1 p2 p3 p4 p5 p6 k u e y i) → G_M_test N s (nI t) p1 p2 p3 p4 p5 p6 = G_M_test_76 N (nI t) p1 p2 p3 p4 p5 p6 (wrI s 85 0 0) := by
  intro ⟨k, u, e, y, i, t1, t2, t3, t4, t5, t6, t7, t8, t9, t10, t11⟩
  have i1 := rps0 h
  obtain ⟨hA, hR⟩ := i1.2.2 t ht
  have hnp := h.2.1
  have hc := hA.1
  unfold WFc at hc
  unfold G_M_test
  rw [r_isPlan_t i1.1 i1.2.1 ht, Option.bind_some]
  dsimp only
  rw [if_neg i10, rdA_nI (by omega) (by decide), Option.bind_some, rp_ne hR, if_neg (show ¬ nI (q_ne (As t)) = 12 from fun e => hn ((nI_eq (b := 12) (by omega) (by decide)).mp e)), t1, r_in2_t (by omega), Option.bind_some]
  dsimp only
  rw [if_neg i10, t4, t5, r_isPair_t2 i1 ht t3.1 t3.2, Option.bind_some]
  dsimp only
  rw [if_neg i10, t6, r_isEnd_t (by omega), Option.bind_some]
  dsimp only
  rw [if_neg i10]
  by_cases c : k = 0
  · rw [if_pos (by rw [c]; rfl), (t10 c).1, (t10 c).2, r_isCable_t2 i1 ht t8, Option.bind_some]
    dsimp only
    rw [if_neg i10, r_isEnd_t (by omega), Option.bind_some]
    dsimp only
    rw [if_neg i10]
  · rw [if_neg (nI_ne0 (by omega) (by omega))]
theorem r_test_f (h : RPs s np As) (ht : t < np) (hno : q_ne (As t) = 12 ∨ ¬ ∃ k u e y i, TSn (As t) p1 p2 p3 p4 p5 p6 k u e y i) : G_M_test N s (nI t) p1 p2 p3 p4 p5 p6 = some (-1, wrI s 85 0 0) := by
  have i1 := rps0 h
  obtain ⟨hA, hR⟩ := i1.2.2 t ht
  have hnp := h.2.1
  have hc := hA.1
  unfold WFc at hc
  unfold G_M_test G_M_test_74
  rw [r_isPlan_t i1.1 i1.2.1 ht, Option.bind_some]
  dsimp only
  rw [if_neg i10, rdA_nI (by omega) (by decide), Option.bind_some, rp_ne hR]
  by_cases c12 : q_ne (As t) = 12
  · rw [c12]
    exact if_pos rfl
  · have hno2 : ¬ ∃ k u e y i, TSn (As t) p1 p2 p3 p4 p5 p6 k u e y i := by
      rcases hno with a | a
      · exact absurd a c12
      · exact a
    rw [if_neg (show ¬ nI (q_ne (As t)) = 12 from fun e => c12 ((nI_eq (b := 12) (by omega) (by decide)).mp e))]
    by_cases c1 : okn 2 p1
    · obtain ⟨k, hk, rfl⟩ := c1
      rw [r_in2_t hk, Option.bind_some]
      dsimp only
      rw [if_neg i10]
      by_cases c : ∃ x p, x < q_nc (As t) ∧ p < q_pr (As t) x ∧ p2 = nI x ∧ p3 = nI p
      · obtain ⟨x, p, hx, hp, rfl, rfl⟩ := c
        have hxx := hA.2.1 x hx
        have hdiv : (8 * x + p) / 8 = x := by omega
        have hmod : (8 * x + p) % 8 = p := by omega
        have hst : q_st (As t) (8 * x + p) := by unfold q_st; rw [hdiv, hmod]; exact ⟨hx, hp⟩
        rw [r_isPair_t2 i1 ht hx hp, Option.bind_some]
        dsimp only
        rw [if_neg i10]
        by_cases c4 : okn 2 p4
        · obtain ⟨e, he, rfl⟩ := c4
          rw [r_isEnd_t he, Option.bind_some]
          dsimp only
          rw [if_neg i10]
          by_cases d0 : k = 0
          · rw [if_pos (by rw [d0]; rfl)]
            by_cases c5 : okn (q_nc (As t)) p5
            · obtain ⟨y, hy, rfl⟩ := c5
              rw [r_isCable_t2 i1 ht hy, Option.bind_some]
              dsimp only
              rw [if_neg i10]
              by_cases c6 : okn 2 p6
              · obtain ⟨i, hi, rfl⟩ := c6
                exact absurd ⟨k, 8 * x + p, e, y, i, rfl, by omega, hst, by rw [hdiv], by rw [hmod], rfl, by omega, hy, by omega, fun _ => ⟨rfl, rfl⟩, fun y => by omega⟩ hno2
              · rw [r_isEnd_f c6, Option.bind_some]
                dsimp only
                rw [if_pos rfl]
            · rw [r_isCable_f2 i1 ht c5, Option.bind_some]
              dsimp only
              rw [if_pos rfl]
          · exact absurd ⟨k, 8 * x + p, e, x, e, rfl, by omega, hst, by rw [hdiv], by rw [hmod], rfl, by omega, hx, by omega, fun y => by omega, fun _ => ⟨by rw [hdiv], rfl⟩⟩ hno2
        · rw [r_isEnd_f c4, Option.bind_some]
          dsimp only
          rw [if_pos rfl]
      · rw [r_isPair_f2 i1 ht c, Option.bind_some]
        dsimp only
        rw [if_pos rfl]
    · rw [r_in2_f c1, Option.bind_some]
      dsimp only
      rw [if_pos rfl]
theorem r_addE (ht : t < 6) (hn : k < 12) (e : s.1 111 t = nI k) : G_M_test_76 N (nI t) p1 p2 p3 p4 p5 p6 s = some (nI k, wr1 (wr1 (wr1 (wr1 (wr1 (wr1 (wr1 s 112 (12 * t + k) p1) 113 (12 * t + k) p2) 114 (12 * t + k) p3) 115 (12 * t + k) p4) 116 (12 * t + k) p5) 117 (12 * t + k) p6) 111 t (nI (k + 1))) := by
  unfold G_M_test_76
  rw [rdA_nI (by omega) (by decide), Option.bind_some, e, L_12, nI_mul, nI_add, stA_nI (by omega) (by decide), Option.bind_some, stA_nI (by omega) (by decide), Option.bind_some, stA_nI (by omega) (by decide), Option.bind_some, stA_nI (by omega) (by decide), Option.bind_some, stA_nI (by omega) (by decide), Option.bind_some, stA_nI (by omega) (by decide), Option.bind_some, rdA_nI (by omega) (by decide), Option.bind_some]
  rw [wr1_ne (by decide), wr1_ne (by decide), wr1_ne (by decide), wr1_ne (by decide), wr1_ne (by decide), wr1_ne (by decide), e, nI_1, stA_nI (by omega) (by decide), Option.bind_some, rdA_nI (by omega) (by decide), Option.bind_some, wr1_at, if_pos rfl, nI_pred]
theorem RPs_e {s1 : mst} (h : RPs s np As) (e : ∀ m, 85 ≤ m → m < 130 → s1.1 m = s.1 m) : RPs s1 np As := by
  refine ⟨by rw [e 85 (by omega) (by omega)]; exact h.1, h.2.1, fun t' ht' => ⟨(h.2.2 t' ht').1, RP_eq (h.2.2 t' ht').2 (fun m hm => ?_)⟩⟩
  have hp1 : ∀ k, k ∈ pers → 85 ≤ k ∧ k < 130 := by decide
  exact e m (hp1 m hm).1 (hp1 m hm).2
theorem st_test : STP eb h0 B (fun S => F_BP_test N S (B + 0) p0 p1 p2 p3 p4 p5 p6) (fun s => G_M_test N s p0 p1 p2 p3 p4 p5 p6) := by
  intro D hi z s ⟨ow, np, As, Ps, P, L, bt, h⟩
  have h1 := h.1.1
  have i0 := INV_rps h.1
  have no : ∀ (e1 : F_BP_test N (mkM h0 B D hi z s) (B + 0) p0 p1 p2 p3 p4 p5 p6 = some (-1, mkM h0 B D hi z s)) (e2 : G_M_test N s p0 p1 p2 p3 p4 p5 p6 = some (-1, wrI s 85 0 0)), ∃ ans D' hi' z' s1 s3, F_BP_test N (mkM h0 B D hi z s) (B + 0) p0 p1 p2 p3 p4 p5 p6 = some (ans, mkM h0 B D' hi' z' s1) ∧ FX D' hi' ∧ G_M_test N s1 p0 p1 p2 p3 p4 p5 p6 = some (ans, s3) ∧ IAX eb D' hi' z' s3 := fun e1 e2 => ⟨-1, D, hi, z, s, _, e1, h1, e2, ow, np, As, Ps, P, L, bt, IA_q h (fun _ _ => rfl) h.1.2.2.2.1 Me_0⟩
  by_cases c0 : okn np p0
  · obtain ⟨t, ht, rfl⟩ := c0
    obtain ⟨a1, a2, a3, a4, a5, a6, a7, a8, a9⟩ := h.1.2.2.2.2.2.2.2.2 t ht
    have hnp := i0.2.1
    have hc := a5.1
    unfold WFc at hc
    rcases c_test (N := N) (h0 := h0) (B := B) (z := z) (p1 := p1) (p2 := p2) (p3 := p3) (p4 := p4) (p5 := p5) (p6 := p6) h.1 ht with ⟨k, u, e, y, i, hT, cls⟩ | ⟨hno, cls⟩
    · by_cases hfull : q_ne (As t) = 12
      · refine no ?_ (r_test_f i0 ht (Or.inl hfull))
        rw [cls, c_add_f (pl_L19 a1) a6.2.2.2.2.1.1 a6.2.2.2.2.1.2.1 (by omega) (by omega)]
      · have hn : q_ne (As t) < 12 := by omega
        generalize hs1 : ladd s (Ps t + 19) (q_ne (As t)) p1 (nI u) p4 (nI y) (nI i) = s1
        have f1 : F_BP_test N (mkM h0 B D hi z s) (B + 0) (nI t) p1 p2 p3 p4 p5 p6 = some (nI (q_ne (As t)), mkM h0 B D hi z s1) := by
          rw [cls, c_add (pl_L19 a1) a6.2.2.2.2.1.1 a6.2.2.2.2.1.2.1 hn (by decide), hs1]
        have hq := (pl_A26 a1).1
        have k1 : ∀ m, m ≠ Ps t + 19 → m ≠ Ps t + 20 → s1.1 m = s.1 m := by
          intro m m1 m2
          rw [← hs1, ladd_ne m1 m2]
        have kr : ∀ m, 85 ≤ m → m < 130 → s1.1 m = s.1 m := fun m m1 m2 => k1 m (by omega) (by omega)
        have i1 : RPs s1 np As := RPs_e i0 kr
        have i2 := rps0 i1
        have e2 := r_test (N := N) i1 ht hfull ⟨k, u, e, y, i, hT⟩
        have e3 := r_addE (N := N) (p1 := p1) (p2 := p2) (p3 := p3) (p4 := p4) (p5 := p5) (p6 := p6) (show t < 6 by omega) hn (rp_ne (i2.2.2 t ht).2)
        generalize hs0 : wrI s1 85 0 0 = s0 at e2 e3 i2
        generalize hs3 : wr1 (wr1 (wr1 (wr1 (wr1 (wr1 (wr1 s0 112 (12 * t + q_ne (As t)) p1) 113 (12 * t + q_ne (As t)) p2) 114 (12 * t + q_ne (As t)) p3) 115 (12 * t + q_ne (As t)) p4) 116 (12 * t + q_ne (As t)) p5) 117 (12 * t + q_ne (As t)) p6) 111 t (nI (q_ne (As t) + 1)) = s3 at e3
        have m0 : Md [] [0] s1 s0 := by rw [← hs0]; exact Md_f (by decide)
        have w3 : ∀ m, m < 111 ∨ 117 < m → s3.1 m = s0.1 m := by
          intro m hm
          rw [← hs3, wr1_ne (by omega), wr1_ne (by omega), wr1_ne (by omega), wr1_ne (by omega), wr1_ne (by omega), wr1_ne (by omega), wr1_ne (by omega)]
        have w0 : ∀ m, m ≠ 85 → s0.1 m = s1.1 m := fun m hm => m0.1 m (by simp) hm
        have x112 : ∀ j, s3.1 112 j = if j = 12 * t + q_ne (As t) then p1 else s0.1 112 j := by
          intro j
          rw [← hs3, wr1_ne (by decide), wr1_ne (by decide), wr1_ne (by decide), wr1_ne (by decide), wr1_ne (by decide), wr1_ne (by decide), wr1_at]
        have x113 : ∀ j, s3.1 113 j = if j = 12 * t + q_ne (As t) then p2 else s0.1 113 j := by
          intro j
          rw [← hs3, wr1_ne (by decide), wr1_ne (by decide), wr1_ne (by decide), wr1_ne (by decide), wr1_ne (by decide), wr1_at, wr1_ne (by decide)]
        have x114 : ∀ j, s3.1 114 j = if j = 12 * t + q_ne (As t) then p3 else s0.1 114 j := by
          intro j
          rw [← hs3, wr1_ne (by decide), wr1_ne (by decide), wr1_ne (by decide), wr1_ne (by decide), wr1_at, wr1_ne (by decide), wr1_ne (by decide)]
        have x115 : ∀ j, s3.1 115 j = if j = 12 * t + q_ne (As t) then p4 else s0.1 115 j := by
          intro j
          rw [← hs3, wr1_ne (by decide), wr1_ne (by decide), wr1_ne (by decide), wr1_at, wr1_ne (by decide), wr1_ne (by decide), wr1_ne (by decide)]
        have x116 : ∀ j, s3.1 116 j = if j = 12 * t + q_ne (As t) then p5 else s0.1 116 j := by
          intro j
          rw [← hs3, wr1_ne (by decide), wr1_ne (by decide), wr1_at, wr1_ne (by decide), wr1_ne (by decide), wr1_ne (by decide), wr1_ne (by decide)]
        have x117 : ∀ j, s3.1 117 j = if j = 12 * t + q_ne (As t) then p6 else s0.1 117 j := by
          intro j
          rw [← hs3, wr1_ne (by decide), wr1_at, wr1_ne (by decide), wr1_ne (by decide), wr1_ne (by decide), wr1_ne (by decide), wr1_ne (by decide)]
        have x111 : ∀ j, s3.1 111 j = if j = t then nI (q_ne (As t) + 1) else s0.1 111 j := by
          intro j
          rw [← hs3, wr1_at, wr1_ne (by decide), wr1_ne (by decide), wr1_ne (by decide), wr1_ne (by decide), wr1_ne (by decide), wr1_ne (by decide)]
        have y3 : ∀ m, m < 85 ∨ m = 86 ∨ 130 ≤ m → s3.1 m = s1.1 m := fun m hm => by rw [w3 m (by omega), w0 m (by omega)]
        have z3 : ∀ m, m < 85 ∨ m = 86 ∨ 130 ≤ m → m ≠ Ps t + 19 → m ≠ Ps t + 20 → s3.1 m = s.1 m := fun m hm m1 m2 => (y3 m hm).trans (k1 m m1 m2)
        have l19 : ∀ j, s3.1 (Ps t + 19) j = (ladd s (Ps t + 19) (q_ne (As t)) p1 (nI u) p4 (nI y) (nI i)).1 (Ps t + 19) j := by
          intro j
          rw [y3 _ (by omega), ← hs1]
        have l20 : ∀ j, s3.1 (Ps t + 19 + 1) j = (ladd s (Ps t + 19) (q_ne (As t)) p1 (nI u) p4 (nI y) (nI i)).1 (Ps t + 19 + 1) j := by
          intro j
          rw [y3 _ (by omega), ← hs1]
        have g := aE_ag (A := As t) (k := k) (x := u) (p := e) (q := y) (d := i)
        have hsb := AG_SB g (by decide) (by decide)
        obtain ⟨c1, c2, c3, c4, c5, c6, c7⟩ := a6
        obtain ⟨r1, r2, r3, r4, r5, r6⟩ := (i2.2.2 t ht).2
        obtain ⟨t1, t2, t3, t4, t5, t6, t7, t8, t9, t10, t11⟩ := id hT
        have S3 : SH D hi ow s3 t (Ps t) (As t) := by
          refine SH_keep3 a7 a2 a1 (fun m hm o1 o2 => z3 m ?_ (fun y => ?_) (fun y => ?_))
          · by_cases g : m < 85 ∨ m = 86 ∨ 130 ≤ m
            · exact g
            · have := h.1.2.2.1 m (by omega) (by omega); omega
          · have := a2 19 (by omega); rw [y] at o1; omega
          · have := a2 20 (by omega); rw [y] at o1; omega
        have hh : ∀ f, f ∈ [13, 14, 15, 16, 17] → f ≤ 17 := by decide
        have hFT : FT (aE (As t) k u e y i) = FT (As t) := sb_FT hsb a5.2.2.2.2.2.2.1 (g.2 6 (by decide)) (fun f f1 f2 j _ => by rw [g.1 f (by omega) (fun y => by have := hh f y; omega)]) aE_f
        have rest : ∀ (l : List Nat), (∀ m, m ∈ l → m < 111 ∨ 117 < m) → ∀ m, m ∈ l → s3.1 m = s0.1 m := fun l hl m hm => w3 m (hl m hm)
        refine ⟨nI (q_ne (As t)), D, hi, z, s1, s3, f1, h1, e2.trans e3, ow, np, updA As t (aE (As t) k u e y i), Ps, P, L, bt, IA_mut h ht (fun m m1 m2 => z3 m m1 (by omega) (by omega)) ?_ ?_ ?_ (aE_WF a5 hn hT) ⟨?_, ?_, ?_, ?_, ?_, ?_, ?_⟩ (sb_SH hsb S3 (by rw [aE_ne]; omega) aE_f (Or.inr hFT)) ⟨?_, ?_, ?_, ?_, ?_, ?_⟩⟩
        · rw [w3 85 (by omega), m0.2.1 2 (by decide), kr 85 (by omega) (by omega)]
        · rw [w3 85 (by omega), m0.2.1 19 (by decide), kr 85 (by omega) (by omega)]
        · refine OTH_t (s' := s0) (OTH_e (fun m hm => ?_)) ?_
          · have hp1 : ∀ k, k ∈ pers → 85 < k ∧ k < 130 := by decide
            have := hp1 m hm
            rw [w0 m (by omega), kr m (by omega) (by omega)]
          · rw [← hs3]
            exact OTH_t (OTH_t (OTH_t (OTH_t (OTH_t (OTH_t (OTH_k rfl hn) (OTH_k rfl hn)) (OTH_k rfl hn)) (OTH_k rfl hn)) (OTH_k rfl hn)) (OTH_k rfl hn)) (OTH_1 rfl)
        · exact CPc_e (ag_CPc g (by decide) (by decide) (by decide) (by decide) (by decide) (by decide) c1) (fun m m1 m2 => z3 m (by omega) (by omega) (by omega))
        · exact CPl_e (ag_CPl g (by decide) (by decide) (by decide) (by decide) (by decide) (by decide) (by decide) (by decide) c2) (fun m m1 m2 => z3 m (by omega) (by omega) (by omega))
        · exact CPs_e (ag_CPs g (by decide) (by decide) (by decide) (by decide) (by decide) c3) (fun m m1 m2 => z3 m (by omega) (by omega) (by omega))
        · exact CPt_e (ag_CPt g (by decide) (by decide) (by decide) (by decide) (by decide) (by decide) c4) (fun m m1 m2 => z3 m (by omega) (by omega) (by omega))
        · refine ⟨by rw [l19, ladd_2, aE_ne], by rw [l19, ladd_L (by decide)]; exact c5.2.1, fun j hj => ?_⟩
          rw [aE_ne] at hj
          rw [l20, l20, l20, l20, l20, ladd_0, ladd_1, ladd_22, ladd_3, ladd_4, aE_ek, aE_es, aE_ee, aE_ey, aE_ei]
          by_cases c : j = q_ne (As t)
          · subst c
            rw [if_pos rfl, if_pos rfl, if_pos rfl, if_pos rfl, if_pos rfl, updN_s, updN_s, updN_s, updN_s, updN_s]
            exact ⟨t1, rfl, t6, rfl, rfl⟩
          · rw [if_neg c, if_neg c, if_neg c, if_neg c, if_neg c, updN_n c, updN_n c, updN_n c, updN_n c, updN_n c]
            exact c5.2.2 j (by omega)
        · exact CPr_e (ag_CPr g (by decide) (by decide) (by decide) (by decide) c6) (fun m m1 m2 => z3 m (by omega) (by omega) (by omega))
        · exact CPw_e (ag_CPw g (by decide) c7) (fun m m1 m2 => z3 m (by omega) (by omega) (by omega))
        · exact RPc_e (ag_RPc g (by decide) (by decide) (by decide) (by decide) (by decide) (by decide) r1) (rest _ (by decide))
        · exact RPo_e (ag_RPo g (by decide) (by decide) (by decide) (by decide) (by decide) r2) (rest _ (by decide))
        · exact RPt_e (ag_RPt g (by decide) (by decide) (by decide) (by decide) (by decide) (by decide) r3) (rest _ (by decide))
        · refine ⟨by rw [x111, if_pos rfl, aE_ne], fun j hj => ?_⟩
          rw [aE_ne] at hj
          rw [x112, x113, x114, x115, x116, x117, aE_ek, aE_es, aE_ee, aE_ey, aE_ei]
          by_cases c : j = q_ne (As t)
          · subst c
            rw [if_pos rfl, if_pos rfl, if_pos rfl, if_pos rfl, if_pos rfl, if_pos rfl, updN_s, updN_s, updN_s, updN_s, updN_s]
            exact ⟨t1, t4, t5, t6, t10⟩
          · rw [if_neg (by omega), if_neg (by omega), if_neg (by omega), if_neg (by omega), if_neg (by omega), if_neg (by omega), updN_n c, updN_n c, updN_n c, updN_n c, updN_n c]
            exact r4.2 j (by omega)
        · exact RPr_e (ag_RPr g (by decide) (by decide) (by decide) (by decide) r5) (rest _ (by decide))
        · exact RPw_e (ag_RPw g (by decide) r6) (rest _ (by decide))
    · exact no cls (r_test_f i0 ht (Or.inr hno))
  · refine no ?_ ?_
    · unfold F_BP_test F_BP_test_31
      rw [rcm_0 h1, if_pos rfl, c_planAt_f h.1 c0]
      rfl
    · have i1 := rps0 i0
      unfold G_M_test G_M_test_74
      rw [r_isPlan_f i1.1 i1.2.1 c0, Option.bind_some]
      dsimp only
      rw [if_pos rfl]
end TST
