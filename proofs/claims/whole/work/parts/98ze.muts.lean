/-! ===== slip ===== -/
def aS (A : AP) (k x y : Nat) : AP := upF (upF (upF (upF A 0 (updN (A 0) 3 (q_ns A + 1))) 5 (updN (A 5) (q_nq A + q_ns A) k)) 6 (updN (A 6) (q_nq A + q_ns A) x)) 7 (updN (A 7) (q_nq A + q_ns A) y)
def SLn (A : AP) (p1 p2 p3 p4 p5 : Int32) (k x y : Nat) : Prop := p1 = nI k ∧ k ≤ 1 ∧ q_st A x ∧ p2 = nI (x / 8) ∧ p3 = nI (x % 8) ∧ (k = 0 → q_st A y ∧ p4 = nI (y / 8) ∧ p5 = nI (y % 8) ∧ q_fr A (y / 8) = q_tb A (x / 8)) ∧ (k = 1 → y < 10 ∧ p4 = nI y)
section SLS
variable {h0 : Nat → pm_C} {B : Nat} {D : Nat → pd} {hi z : Nat} {s : mst} {N np : Nat} {As : Nat → AP} {Ps ow : Nat → Nat} {P L : Nat} {bt : Nat → Nat} {A : AP} {p0 p1 p2 p3 p4 p5 : Int32} {k x p q d t u e y i j v : Nat}
theorem aS_ag : AG A (aS A k x y) [5, 6, 7] [3] := by
  refine ⟨fun f f0 hf => ?_, fun i hi => ?_⟩
  · unfold aS
    rw [upF_n (fun e => hf (by rw [e]; decide)), upF_n (fun e => hf (by rw [e]; decide)), upF_n (fun e => hf (by rw [e]; decide)), upF_n f0]
  · unfold aS
    rw [upF_n (by decide), upF_n (by decide), upF_n (by decide), upF_s]
    exact updN_n (fun e => hi (by rw [e]; decide))
theorem aS_ns : q_ns (aS A k x y) = q_ns A + 1 := by
  show aS A k x y 0 3 = _
  unfold aS
  rw [upF_n (by decide), upF_n (by decide), upF_n (by decide), upF_s, updN_s]
theorem aS_ok : q_ok (aS A k x y) = updN (q_ok A) (q_nq A + q_ns A) k := by
  show aS A k x y 5 = _
  unfold aS
  rw [upF_n (by decide), upF_n (by decide), upF_s]
  rfl
theorem aS_os : q_os (aS A k x y) = updN (q_os A) (q_nq A + q_ns A) x := by
  show aS A k x y 6 = _
  unfold aS
  rw [upF_n (by decide), upF_s]
  rfl
theorem aS_ow : q_ow (aS A k x y) = updN (q_ow A) (q_nq A + q_ns A) y := by
  show aS A k x y 7 = _
  unfold aS
  rw [upF_s]
  rfl
theorem aS_ly : ∀ i, i ≤ q_nq A + q_ns A → q_ly (aS A k x y) i = q_ly A i := by
  intro i hi
  refine ly_c i (fun m hm => ?_)
  rw [aS_ok, aS_os, aS_ow, updN_n (by omega), updN_n (by omega), updN_n (by omega)]
  exact ⟨rfl, rfl, rfl⟩
theorem aS_WF (hA : WF A) (hn : q_ns A < 6) (h : SLn A p1 p2 p3 p4 p5 k x y) : WF (aS A k x y) := by
  obtain ⟨a1, a2, a3, a4, a5, a6, a7, a8⟩ := hA
  have g := aS_ag (A := A) (k := k) (x := x) (y := y)
  refine ⟨?_, ag_WFx g (by decide) (by decide) (by decide) (by decide) (by decide) (by decide) a2, ag_WFd g (by decide) (by decide) a3, ?_, ?_, ag_WFe g (by decide) (by decide) (by decide) (by decide) (by decide) (by decide) (by decide) (by decide) a6, ag_WFr g (by decide) (by decide) (by decide) (by decide) (by decide) a7, ag_WFw g (by decide) a8⟩
  · unfold WFc at a1 ⊢
    rw [ag_nb g (by decide), ag_nc g (by decide), ag_nq g (by decide), aS_ns, ag_nt g (by decide), ag_ne g (by decide), ag_nr g (by decide)]
    omega
  · intro i hi
    rw [ag_nq g (by decide), aS_ns] at hi
    rw [aS_ok, aS_os, aS_ow, ag_st g (by decide) (by decide), ag_fr g (by decide), ag_tb g (by decide)]
    by_cases c : i = q_nq A + q_ns A
    · subst c
      rw [updN_s, updN_s, updN_s]
      obtain ⟨_, h2, h3, _, _, h6, h7⟩ := h
      exact ⟨h2, h3, fun y => ⟨(h6 y).1, (h6 y).2.2.2⟩, fun y => (h7 y).1⟩
    · rw [updN_n c, updN_n c, updN_n c]
      exact a4 i (by omega)
  · intro i hi
    rw [ag_nt g (by decide)] at hi
    rw [ag_tk g (by decide), ag_tx g (by decide), ag_tp g (by decide), ag_tq g (by decide), ag_td g (by decide), aS_ns, ag_nc g (by decide), ag_pr g (by decide), ag_ln g (by decide)]
    obtain ⟨b1, b2, b3⟩ := a5 i hi
    exact ⟨b1, fun y => by have := b2 y; omega, b3⟩
theorem c_isHouse_t {S : pm_S} (hj : j < 10) : F_BP_isHouse N S (nI j) = some (1, S) := by
  unfold F_BP_isHouse F_BP_isHouse_15
  rw [if_neg (nI_pos (by omega)), L_10, if_neg (nI_ge hj (by decide)), if_pos (Or.inr rfl)]
theorem c_isHouse_f {S : pm_S} {i : Int32} (hj : ¬ okn 10 i) : F_BP_isHouse N S i = some (0, S) := by
  unfold F_BP_isHouse F_BP_isHouse_14 F_BP_isHouse_15
  rw [if_pos (Or.inl rfl)]
  rcases okn_not (show 10 < 2 ^ 31 by decide) hj with c | c
  · rw [if_pos c]
  · by_cases d : i < 0
    · rw [if_pos d]
    · rw [if_neg d, L_10, if_pos c]
theorem c_meet (hp : PL D hi P) (hcp : CP s P A) (hA : WF A) (hx : x < q_nc A) : (∃ y, y < q_nc A ∧ p4 = nI y ∧ ((F_Plan_meet N (mkM h0 B D hi z s) (B + P) (nI x) p4 = some (1, (mkM h0 B D hi z s)) ∧ q_fr A y = q_tb A x) ∨ (F_Plan_meet N (mkM h0 B D hi z s) (B + P) (nI x) p4 = some (0, (mkM h0 B D hi z s)) ∧ q_fr A y ≠ q_tb A x))) ∨ (¬ okn (q_nc A) p4 ∧ F_Plan_meet N (mkM h0 B D hi z s) (B + P) (nI x) p4 = some (0, (mkM h0 B D hi z s))) := by
  have hc := hA.1
  unfold WFc at hc
  have hxx := hA.2.1 x hx
  unfold F_Plan_meet F_Plan_meet_41 F_Plan_meet_42
  rw [pl_rc hp, if_pos rfl, pl_1 hp]
  dsimp only [Option.bind_some]
  rw [c_has_t (pl_L1 hp) hcp.1.2.1 (by omega) hx]
  dsimp only [Option.bind_some]
  rw [if_neg i10, pl_1 hp]
  dsimp only [Option.bind_some]
  by_cases c : okn (q_nc A) p4
  · obtain ⟨y, hy, rfl⟩ := c
    have hyy := hA.2.1 y hy
    refine Or.inl ⟨y, hy, rfl, ?_⟩
    rw [c_has_t (pl_L1 hp) hcp.1.2.1 (by omega) hy]
    dsimp only [Option.bind_some]
    have b1 : F_Plan_boxAt N (mkM h0 B D hi z s) (B + P) (nI x) 1 = some (nI (q_tb A x), (mkM h0 B D hi z s)) := c_boxAt hp hcp hA hx (e := 1) (by decide)
    have b0 : F_Plan_boxAt N (mkM h0 B D hi z s) (B + P) (nI y) 0 = some (nI (q_fr A y), (mkM h0 B D hi z s)) := c_boxAt hp hcp hA hy (e := 0) (by decide)
    rw [if_neg i10, b1]
    dsimp only [Option.bind_some]
    rw [b0]
    dsimp only [Option.bind_some]
    by_cases d : q_fr A y = q_tb A x
    · exact Or.inl ⟨by rw [d, if_pos rfl, if_pos (Or.inr rfl)], d⟩
    · refine Or.inr ⟨?_, d⟩
      rw [if_neg (fun e => d ((nI_eq (by omega) (by omega)).mp e).symm), if_pos (Or.inl rfl)]
  · refine Or.inr ⟨c, ?_⟩
    rw [c_has_f (pl_L1 hp) hcp.1.2.1 (by omega) c]
    dsimp only [Option.bind_some]
    rw [if_pos rfl, if_pos (Or.inl rfl)]
theorem bnd_id {X : Option (Int32 × pm_S)} : (X.bind fun (v15, S14) => some (v15, S14)) = X := by
  cases X <;> rfl
theorem c_slip_91 {S : pm_S} {a : Nat} {p5 : Int32} : F_BP_slip_91 N p1 (nI x) (nI p) p4 p5 a 0 S = F_Plan_addSlip N S a p1 (nI (8 * x + p)) p4 := by
  unfold F_BP_slip_91 F_BP_slip_117
  rw [c_siteOf]
  dsimp only [Option.bind_some]
  rw [if_pos rfl]
  exact bnd_id
theorem c_slip_77 {S : pm_S} {a : Nat} {p2 p3 p4 p5 : Int32} : F_BP_slip_77 N p1 p2 p3 p4 p5 a 0 1 S = F_BP_slip_91 N p1 p2 p3 p4 p5 a 0 S := by
  unfold F_BP_slip_77
  rw [if_pos rfl, if_neg i10]
theorem c_slip_h {S : pm_S} {a : Nat} {p2 p3 p5 : Int32} (d1 : p1 = 1) (hj : y < 10) : F_BP_slip_57 N p1 p2 p3 (nI y) p5 a 0 S = F_BP_slip_77 N p1 p2 p3 (nI y) p5 a 0 1 S := by
  unfold F_BP_slip_57
  rw [if_pos d1, c_isHouse_t hj, Option.bind_some]
  generalize hv : F_BP_slip_77 N p1 p2 p3 (nI y) p5 a 0 1 S = X
  generalize hw : F_BP_slip_76 N p1 p2 p3 (nI y) p5 a 0 S = Y
  have e : ∀ v : Int32, v = 1 → (if v = 0 then Y else X) = X := by
    intro v hv
    rw [if_neg (by rw [hv]; exact i10)]
  have := e 1 rfl
  rw [← hv, ← hw] at this
  rw [← hv]
  exact this
theorem c_slip_760 {S : pm_S} {a : Nat} {p2 p3 p4 p5 : Int32} : F_BP_slip_76 N p1 p2 p3 p4 p5 a 0 S = some (-1, S) := by
  unfold F_BP_slip_76 F_BP_slip_77
  rw [if_pos rfl, if_pos rfl]
theorem c_slip_b {S : pm_S} {a : Nat} {p2 p3 p4 p5 : Int32} (n1 : ¬ p1 = 1) : F_BP_slip_57 N p1 p2 p3 p4 p5 a 0 S = some (-1, S) := by
  unfold F_BP_slip_57
  rw [if_neg n1]
  exact c_slip_760
theorem c_slip_hf {S : pm_S} {a : Nat} {p2 p3 p4 p5 : Int32} (d1 : p1 = 1) (hj : ¬ okn 10 p4) : F_BP_slip_57 N p1 p2 p3 p4 p5 a 0 S = some (-1, S) := by
  unfold F_BP_slip_57
  rw [if_pos d1, c_isHouse_f hj, Option.bind_some]
  generalize hv : F_BP_slip_77 N p1 p2 p3 p4 p5 a 0 1 S = X
  generalize hw : F_BP_slip_76 N p1 p2 p3 p4 p5 a 0 S = Y
  have e : ∀ v : Int32, v = 0 → (if v = 0 then Y else X) = Y := by
    intro v hv
    rw [if_pos hv]
  have e2 := e 0 rfl
  rw [← hv, ← hw] at e2
  exact e2.trans c_slip_760
theorem c_slip_571 {S : pm_S} {a : Nat} {p4 p5 : Int32} (n1 : ¬ p1 = 1) : F_BP_slip_57 N p1 (nI x) (nI p) (nI y) (nI q) a 1 S = F_Plan_addSlip N S a p1 (nI (8 * x + p)) (nI (8 * y + q)) := by
  unfold F_BP_slip_57
  rw [if_neg n1]
  unfold F_BP_slip_76 F_BP_slip_77
  rw [if_neg i10]
  unfold F_BP_slip_91 F_BP_slip_117
  rw [c_siteOf, Option.bind_some]
  dsimp only
  rw [if_neg i10, c_siteOf, Option.bind_some]
  exact bnd_id
theorem c_slip (h : INV D hi ow s np As Ps) (ht : t < np) : (∃ k x y, SLn (As t) p1 p2 p3 p4 p5 k x y ∧ F_BP_slip N (mkM h0 B D hi z s) (B + 0) (nI t) p1 p2 p3 p4 p5 = F_Plan_addSlip N (mkM h0 B D hi z s) (B + Ps t) p1 (nI x) (nI y)) ∨ ((¬ ∃ k x y, SLn (As t) p1 p2 p3 p4 p5 k x y) ∧ F_BP_slip N (mkM h0 B D hi z s) (B + 0) (nI t) p1 p2 p3 p4 p5 = some (-1, (mkM h0 B D hi z s))) := by
  have h1 := h.1
  obtain ⟨a1, a2, a3, a4, a5, a6, a7, a8, a9⟩ := h.2.2.2.2.2.2.2.2 t ht
  have hc := a5.1
  unfold WFc at hc
  have b3 : ∀ X : Option (Int32 × pm_S), (X.bind fun (v15, S14) => some (v15, S14)) = X := by
    intro X
    cases X <;> rfl
  unfold F_BP_slip F_BP_slip_23 F_BP_slip_56
  rw [rcm_0 h1, if_pos rfl, c_planAt_t h ht]
  dsimp only [Option.bind_some]
  by_cases c : ∃ x p, x < q_nc (As t) ∧ p < q_pr (As t) x ∧ p2 = nI x ∧ p3 = nI p
  · obtain ⟨x, p, hx, hp, rfl, rfl⟩ := c
    have hxx := a5.2.1 x hx
    have hdiv : (8 * x + p) / 8 = x := by omega
    have hmod : (8 * x + p) % 8 = p := by omega
    have hst : q_st (As t) (8 * x + p) := by unfold q_st; rw [hdiv, hmod]; exact ⟨hx, hp⟩
    rw [c_hasPair_t a1 a6 a5 hx hp]
    dsimp only [Option.bind_some]
    rw [if_neg i10]
    by_cases d0 : p1 = 0
    · rw [if_pos d0]
      have n1 : ¬ p1 = 1 := by rw [d0]; decide
      -- no JOINT
      have bad : F_BP_slip_57 N p1 (nI x) (nI p) p4 p5 (B + Ps t) 0 (mkM h0 B D hi z s) = some (-1, (mkM h0 B D hi z s)) := c_slip_b n1
      have k0 : ∀ k, p1 = nI k → k ≤ 1 → k = 0 := by
        intro k e hk
        have := d0.symm.trans e
        rw [L_0] at this
        exact ((nI_eq (by decide) (by omega)).mp this).symm
      rcases c_meet (N := N) (h0 := h0) (B := B) (z := z) (p4 := p4) a1 a6 a5 hx with ⟨y, hy, rfl, ⟨e, hm⟩ | ⟨e, hm⟩⟩ | ⟨hno, e⟩
      · have hyy := a5.2.1 y hy
        rw [e]
        dsimp only [Option.bind_some]
        rw [if_neg i10]
        by_cases c5 : okn (q_pr (As t) y) p5
        · obtain ⟨q, hq, rfl⟩ := c5
          rw [c_hasPair_t a1 a6 a5 hy hq]
          dsimp only [Option.bind_some]
          rw [if_neg i10]
          have hdv : (8 * y + q) / 8 = y := by omega
          have hmd : (8 * y + q) % 8 = q := by omega
          refine Or.inl ⟨0, 8 * x + p, 8 * y + q, ⟨d0, by omega, hst, by rw [hdiv], by rw [hmod], fun _ => ⟨by unfold q_st; rw [hdv, hmd]; exact ⟨hy, hq⟩, by rw [hdv], by rw [hmd], by rw [hdv, hdiv]; exact hm⟩, fun y => by omega⟩, ?_⟩
          exact c_slip_571 (p4 := 0) (p5 := 0) n1
        · have np5 : ¬ ∃ x' q, x' < q_nc (As t) ∧ q < q_pr (As t) x' ∧ nI y = nI x' ∧ p5 = nI q := by
            intro ⟨x', q, y1, y2, y3, y4⟩
            have ex : y = x' := (nI_eq (by omega) (by omega)).mp y3
            subst ex
            exact c5 ⟨q, y2, y4⟩
          rw [c_hasPair_f a1 a6 a5 np5]
          dsimp only [Option.bind_some]
          rw [if_pos rfl, bad]
          refine Or.inr ⟨?_, rfl⟩
          intro ⟨k, x', y', t1, t2, t3, t4, t5, t6, t7⟩
          obtain ⟨g1, g2, g3, g4⟩ := t6 (k0 k t1 t2)
          exact np5 ⟨y' / 8, y' % 8, g1.1, g1.2, g2, g3⟩
      · have hyy := a5.2.1 y hy
        rw [e]
        dsimp only [Option.bind_some]
        rw [if_pos rfl, bad]
        refine Or.inr ⟨?_, rfl⟩
        intro ⟨k, x', y', t1, t2, t3, t4, t5, t6, t7⟩
        obtain ⟨g1, g2, g3, g4⟩ := t6 (k0 k t1 t2)
        have l1 := q_st_lt a5 g1
        have l2 := q_st_lt a5 t3
        have ey : y = y' / 8 := (nI_eq (by omega) (by omega)).mp g2
        have ex : x = x' / 8 := (nI_eq (by omega) (by omega)).mp t4
        rw [← ey, ← ex] at g4
        exact hm g4
      · rw [e]
        dsimp only [Option.bind_some]
        rw [if_pos rfl, bad]
        refine Or.inr ⟨?_, rfl⟩
        intro ⟨k, x', y', t1, t2, t3, t4, t5, t6, t7⟩
        obtain ⟨g1, g2, g3, g4⟩ := t6 (k0 k t1 t2)
        exact hno ⟨y' / 8, g1.1, g2⟩
    · rw [if_neg d0]
      by_cases d1 : p1 = 1
      · by_cases c4 : okn 10 p4
        · obtain ⟨y, hy, rfl⟩ := c4
          rw [c_slip_h d1 hy, c_slip_77, c_slip_91]
          exact Or.inl ⟨1, 8 * x + p, y, ⟨d1, by omega, hst, by rw [hdiv], by rw [hmod], fun y => by omega, fun _ => ⟨hy, rfl⟩⟩, rfl⟩
        · rw [c_slip_hf d1 c4]
          refine Or.inr ⟨?_, rfl⟩
          intro ⟨k, x', y', t1, t2, t3, t4, t5, t6, t7⟩
          have k1 : k = 1 := by
            have := d1.symm.trans t1
            rw [L_1] at this
            exact ((nI_eq (by decide) (by omega)).mp this).symm
          exact c4 ⟨y', (t7 k1).1, (t7 k1).2⟩
      · rw [c_slip_b d1]
        refine Or.inr ⟨?_, rfl⟩
        intro ⟨k, x', y', t1, t2, t3, t4, t5, t6, t7⟩
        rcases (show k = 0 ∨ k = 1 by omega) with c | c
        · exact d0 (by rw [t1, c]; rfl)
        · exact d1 (by rw [t1, c]; rfl)
  · rw [c_hasPair_f a1 a6 a5 c]
    dsimp only [Option.bind_some]
    rw [if_pos rfl]
    refine Or.inr ⟨?_, rfl⟩
    intro ⟨k, x', y', t1, t2, t3, t4, t5, t6, t7⟩
    exact c ⟨x' / 8, x' % 8, t3.1, t3.2, t4, t5⟩
theorem r_slip (h : RPs s np As) (ht : t < np) (hn : q_ns (As t) ≠ 6) (hS : SLn (As t) p1 p2 p3 p4 p5 k x y) : G_M_slip N s (nI t) p1 p2 p3 p4 p5 = G_M_slip_104 N (nI t) p1 p2 p3 p4 p5 (wrI s 85 0 0) := by
  obtain ⟨t1, t2, t3, t4, t5, t6, t7⟩ := hS
  have i1 := rps0 h
  obtain ⟨hA, hR⟩ := i1.2.2 t ht
  have hnp := h.2.1
  have hc := hA.1
  unfold WFc at hc
  have hxl := q_st_lt hA t3
  unfold G_M_slip
  rw [r_isPlan_t i1.1 i1.2.1 ht, Option.bind_some]
  dsimp only
  rw [if_neg i10, rdA_nI (by omega) (by decide), Option.bind_some, rp_ns hR, if_neg (show ¬ nI (q_ns (As t)) = 6 from fun e => hn ((nI_eq (b := 6) (by omega) (by decide)).mp e)), t1, r_in2_t (by omega), Option.bind_some]
  dsimp only
  rw [if_neg i10, t4, t5, r_isPair_t2 i1 ht t3.1 t3.2, Option.bind_some]
  dsimp only
  rw [if_neg i10]
  by_cases c : k = 0
  · obtain ⟨g1, g2, g3, g4⟩ := t6 c
    have hyl := q_st_lt hA g1
    rw [if_pos (by rw [c]; rfl), g2, g3, r_isPair_t2 i1 ht g1.1 g1.2, Option.bind_some]
    dsimp only
    rw [if_neg i10, L_7, nI_mul, nI_add, nI_add, rdA_nI (by omega) (by decide), Option.bind_some, rdA_nI (by omega) (by decide), Option.bind_some, rp_fr hR g1.1, rp_tb hR t3.1, g4, if_pos rfl]
  · have k1 : k = 1 := by omega
    obtain ⟨g1, g2⟩ := t7 k1
    rw [if_neg (nI_ne0 (by omega) (by omega)), g2]
    have hz : G_M_isIn N (wrI s 85 0 0) (nI y) 0 9 = some (1, wrI s 85 0 0) := by
      have := r_in_t (N := N) (s := wrI s 85 0 0) g1 (show 10 < 2 ^ 31 by decide)
      rw [show nI 10 - 1 = (9 : Int32) from by decide] at this
      exact this
    rw [hz, Option.bind_some]
    dsimp only
    rw [if_neg i10]
theorem r_slip_f (h : RPs s np As) (ht : t < np) (hno : q_ns (As t) = 6 ∨ ¬ ∃ k x y, SLn (As t) p1 p2 p3 p4 p5 k x y) : G_M_slip N s (nI t) p1 p2 p3 p4 p5 = some (-1, wrI s 85 0 0) := by
  have i1 := rps0 h
  obtain ⟨hA, hR⟩ := i1.2.2 t ht
  have hnp := h.2.1
  have hc := hA.1
  unfold WFc at hc
  unfold G_M_slip G_M_slip_44 G_M_slip_102
  rw [r_isPlan_t i1.1 i1.2.1 ht, Option.bind_some]
  dsimp only
  rw [if_neg i10, rdA_nI (by omega) (by decide), Option.bind_some, rp_ns hR]
  by_cases c12 : q_ns (As t) = 6
  · rw [c12]
    exact if_pos rfl
  · have hno2 : ¬ ∃ k x y, SLn (As t) p1 p2 p3 p4 p5 k x y := by
      rcases hno with a | a
      · exact absurd a c12
      · exact a
    rw [if_neg (show ¬ nI (q_ns (As t)) = 6 from fun e => c12 ((nI_eq (b := 6) (by omega) (by decide)).mp e))]
    by_cases c1 : okn 2 p1
    · obtain ⟨k, hk, rfl⟩ := c1
      rw [r_in2_t hk, Option.bind_some]
      dsimp only
      rw [if_neg i10]
      by_cases c : ∃ x p, x < q_nc (As t) ∧ p < q_pr (As t) x ∧ p2 = nI x ∧ p3 = nI p
      · obtain ⟨x, p, hx, hp, rfl, rfl⟩ := c
        have hxx := hA.2.1 x hx
        have hdiv : (8 * x + p) / 8 = x := by omega
        have hmod : (8 * x + p) % 8 = p := by omega
        have hst : q_st (As t) (8 * x + p) := by unfold q_st; rw [hdiv, hmod]; exact ⟨hx, hp⟩
        rw [r_isPair_t2 i1 ht hx hp, Option.bind_some]
        dsimp only
        rw [if_neg i10]
        by_cases d0 : k = 0
        · rw [if_pos (by rw [d0]; rfl)]
          by_cases c5 : ∃ x' q, x' < q_nc (As t) ∧ q < q_pr (As t) x' ∧ p4 = nI x' ∧ p5 = nI q
          · obtain ⟨y, q, hy, hq, rfl, rfl⟩ := c5
            have hyy := hA.2.1 y hy
            have hdv : (8 * y + q) / 8 = y := by omega
            have hmd : (8 * y + q) % 8 = q := by omega
            rw [r_isPair_t2 i1 ht hy hq, Option.bind_some]
            dsimp only
            rw [if_neg i10, L_7, nI_mul, nI_add, nI_add, rdA_nI (by omega) (by decide), Option.bind_some, rdA_nI (by omega) (by decide), Option.bind_some, rp_fr hR hy, rp_tb hR hx]
            rw [if_neg]
            intro e
            have g4 := (nI_eq (by omega) (by omega)).mp e
            exact hno2 ⟨k, 8 * x + p, 8 * y + q, rfl, by omega, hst, by rw [hdiv], by rw [hmod], fun _ => ⟨by unfold q_st; rw [hdv, hmd]; exact ⟨hy, hq⟩, by rw [hdv], by rw [hmd], by rw [hdv, hdiv]; exact g4⟩, fun y => by omega⟩
          · rw [r_isPair_f2 i1 ht c5, Option.bind_some]
            dsimp only
            rw [if_pos rfl]
        · rw [if_neg (nI_ne0 (by omega) (by omega))]
          by_cases c4 : okn 10 p4
          · obtain ⟨y, hy, rfl⟩ := c4
            exact absurd ⟨k, 8 * x + p, y, rfl, by omega, hst, by rw [hdiv], by rw [hmod], fun y => by omega, fun _ => ⟨hy, rfl⟩⟩ hno2
          · have hz : G_M_isIn N (wrI s 85 0 0) p4 0 9 = some (0, wrI s 85 0 0) := by
              have := r_in_f (N := N) (s := wrI s 85 0 0) (n := 10) (p0 := p4) (by decide) c4
              rw [show nI 10 - 1 = (9 : Int32) from by decide] at this
              exact this
            rw [hz, Option.bind_some]
            dsimp only
            rw [if_pos rfl]
      · rw [r_isPair_f2 i1 ht c, Option.bind_some]
        dsimp only
        rw [if_pos rfl]
    · rw [r_in2_f c1, Option.bind_some]
      dsimp only
      rw [if_pos rfl]
end SLS
