/-! ===== cable in the law ===== -/
def thrC (N : Nat) (S : pm_S) (a : Nat) (p0 p1 p2 : Int32) : Prop := rcv S a 10 = true ∧ (F_BP_planAt N S a p0 = some (none, S) ∨ ∃ q, F_BP_planAt N S a p0 = some (some q, S) ∧ (F_Plan_hasCable N S q p1 = some (0, S) ∨ (F_Plan_hasCable N S q p1 = some (1, S) ∧ (p2 < 0 ∨ ¬ p2 ≤ 3))))
/-- what the law's cable does: 0 and the answer in the row, or 1 and a cell that is nobody's -/
noncomputable def cabF (N : Nat) (S : pm_S) (a : Nat) (p0 p1 p2 : Int32) (o : Nat) : Option (Int32 × pm_S) := @ite (Option (Int32 × pm_S)) (thrC N S a p0 p1 p2) (Classical.propDecidable _) (some (1, pm_al S 6 (.inl (9, 0, .inl (fun _ => 0))))) ((F_BP_cable N S a p0 p1 p2).bind fun r => (sJ r.2 o 0 (Int32.toInt64 r.1)).bind fun S2 => some (0, S2))
section CAB
variable {h0 : Nat → pm_C} {B : Nat} {D : Nat → pd} {hi z : Nat} {s : mst} {N np : Nat} {As : Nat → AP} {Ps ow : Nat → Nat} {P L : Nat} {bt : Nat → Nat} {eb : Nat} {p0 p1 p2 : Int32} {b k : Nat} {xs : Nat → Int32} {rec23 : Int32 → pm_S → Option (Int32 × pm_S)}
theorem thr_none {S : pm_S} {a : Nat} (h : thrC N S a p0 p1 p2) : F_BP_cable N S a p0 p1 p2 = none := by
  obtain ⟨h1, h2⟩ := h
  unfold F_BP_cable
  rw [if_pos h1]
  rcases h2 with h2 | ⟨q, h2, h3⟩
  · rw [h2, Option.bind_some]
  · rw [h2, Option.bind_some]
    dsimp only
    rcases h3 with h3 | ⟨h3, h4⟩
    · rw [h3, Option.bind_some]
      exact if_pos rfl
    · rw [h3, Option.bind_some]
      dsimp only
      rw [if_neg (by decide)]
      by_cases c : p2 < 0
      · rw [if_pos c]
      · rw [if_neg c]
        rcases h4 with h4 | h4
        · exact absurd h4 c
        · rw [if_neg h4]
theorem u_cable_t {t x q : Nat} (h : IA eb D hi z ow s np As Ps P L bt) (ht : t < np) (hx : x < q_nc (As t)) (hq : q < 4) : ∃ ans s3, F_BP_cable N (mkM h0 B D hi z s) (B + 0) (nI t) (nI x) (nI q) = some (ans, (mkM h0 B D hi z s)) ∧ G_M_cable N s (nI t) (nI x) (nI q) = some (ans, s3) ∧ s3.1 85 0 = 0 ∧ Me scK scJ s s3 ∧ s3.2 = s.2 ∧ ans = s.1 (Ps t + 1 + 1) (5 * x + q) := by
  have h1 := h.1.1
  obtain ⟨a1, a2, a3, a4, a5, a6, a7, a8, a9⟩ := h.1.2.2.2.2.2.2.2.2 t ht
  have i0 := INV_rps h.1
  have ht6 : t < 6 := by have := i0.2.1; omega
  have hc := a5.1
  unfold WFc at hc
  have R := ((rps0 i0).2.2 t ht).2
  have e0 : (wrI s 85 0 0).1 85 0 = 0 := by
    show (wr1 s 85 0 0).1 85 0 = 0
    rw [wr1_at, if_pos rfl]
  obtain ⟨k0, k1, k2, k3⟩ := a6.1.2.2.2.1 x hx
  have cls : F_BP_cable N (mkM h0 B D hi z s) (B + 0) (nI t) (nI x) (nI q) = some (s.1 (Ps t + 1 + 1) (5 * x + q), (mkM h0 B D hi z s)) := by
    unfold F_BP_cable
    rw [rcm_0 h1, if_pos rfl, c_planAt_t h.1 ht]
    dsimp only [Option.bind_some]
    rw [c_hasCable_t a1 a6 a5 hx]
    dsimp only [Option.bind_some]
    rw [if_neg i10, if_neg (nI_pos (by omega)), if_pos (show nI q ≤ 3 from nI_le (b := 3) (by omega) (by decide)), pl_1 a1]
    dsimp only [Option.bind_some]
    rw [c_at (pl_L1 a1) a6.1.2.1 (by omega) hx (by omega)]
    rfl
  have ref : G_M_cable N s (nI t) (nI x) (nI q) = G_M_cable_24 N (nI t) (nI x) (nI q) 0 s := by
    unfold G_M_cable
    rw [r_isCable_t2 i0 ht hx, Option.bind_some]
    dsimp only
    rw [if_neg i10, r_isIn, if_neg (nI_pos (by omega)), if_neg (show ¬ (3 : Int32) < nI q from nI_nlt (a := 3) (by omega) (by decide)), Option.bind_some]
    dsimp only
    rw [if_neg i10]
  rw [cls, ref]
  unfold G_M_cable_24 G_M_cable_95
  rw [if_pos (by rw [e0]; decide), L_7, nI_mul, nI_add, rdA_nI (by omega) (by decide), rdA_nI (by omega) (by decide), rdA_nI (by omega) (by decide), rdA_nI (by omega) (by decide), rp_fr R hx, rp_tb R hx, rp_pr R hx, rp_ln R hx]
  dsimp only [Option.bind_some]
  by_cases d0 : q = 0
  · subst d0
    exact ⟨nI (q_fr (As t) x), wrI s 85 0 0, by rw [k0], by rw [if_pos nI_0], e0, Me_0, rfl, k0.symm⟩
  · rw [if_neg (nI_ne0 (by omega) (by omega))]
    by_cases d1 : q = 1
    · subst d1
      exact ⟨nI (q_tb (As t) x), wrI s 85 0 0, by rw [k1], if_pos rfl, e0, Me_0, rfl, k1.symm⟩
    · rw [if_neg (show ¬ nI q = 1 from fun e => d1 ((nI_eq (b := 1) (by omega) (by decide)).mp e))]
      by_cases d2 : q = 2
      · subst d2
        exact ⟨nI (q_pr (As t) x), wrI s 85 0 0, by rw [k2], if_pos rfl, e0, Me_0, rfl, k2.symm⟩
      · rw [if_neg (show ¬ nI q = 2 from fun e => d2 ((nI_eq (b := 2) (by omega) (by decide)).mp e))]
        have d3 : q = 3 := by omega
        subst d3
        exact ⟨nI (q_ln (As t) x), wrI s 85 0 0, by rw [k3], rfl, e0, Me_0, rfl, k3.symm⟩
theorem cab_f (h : IA eb D hi z ow s np As Ps P L bt) (hno : ¬ ∃ t x q, t < np ∧ x < q_nc (As t) ∧ q < 4 ∧ p0 = nI t ∧ p1 = nI x ∧ p2 = nI q) : thrC N (mkM h0 B D hi z s) (B + 0) p0 p1 p2 := by
  have h1 := h.1.1
  refine ⟨rcm_0 h1, ?_⟩
  by_cases c : okn np p0
  · obtain ⟨t, ht, rfl⟩ := c
    obtain ⟨a1, a2, a3, a4, a5, a6, a7, a8, a9⟩ := h.1.2.2.2.2.2.2.2.2 t ht
    refine Or.inr ⟨B + Ps t, c_planAt_t h.1 ht, ?_⟩
    by_cases d : okn (q_nc (As t)) p1
    · obtain ⟨x, hx, rfl⟩ := d
      refine Or.inr ⟨c_hasCable_t a1 a6 a5 hx, ?_⟩
      have hq : ¬ okn 4 p2 := fun ⟨q, hq, e⟩ => hno ⟨t, x, q, ht, hx, hq, rfl, rfl, e⟩
      rcases okn_not (show 4 < 2 ^ 31 by decide) hq with e | e
      · exact Or.inl e
      · refine Or.inr (i32_nle.mpr ?_)
        have := (nI_m1_lt (show 4 < 2 ^ 31 by decide)).mpr e
        rw [show nI 4 - 1 = (3 : Int32) from by decide] at this
        exact this
    · exact Or.inl (c_hasCable_f a1 a6 a5 d)
  · exact Or.inl (c_planAt_f h.1 c)
theorem IA_up (h : IA eb D hi z ow s np As Ps P L bt) (he : eb < 10000) : IA (eb + 1) D hi z ow s np As Ps P L bt := by
  obtain ⟨i1, i2, i3, i4⟩ := h
  refine ⟨i1, i2, i3, ?_⟩
  unfold RM at i4 ⊢
  omega
theorem IAX_up (h : IAX eb D hi z s) (he : eb < 10000) : IAX (eb + 1) D hi z s := by
  obtain ⟨ow, np, As, Ps, P, L, bt, h⟩ := h
  exact ⟨ow, np, As, Ps, P, L, bt, IA_up h he⟩
theorem vp_0 {f : Nat → Int64} {x : Int64} : vp_updL f 0 x 0 = x := by
  unfold vp_updL
  simp
theorem k_300 (hsc : SC h0 B b L xs) (hk : k + 9 ≤ L) (he : eb < 10000) (h : IAX eb D hi z s) : ∃ D' hi' z' s', F_Law_law_300 (cabF N) N rec23 b (B + 0) (B + 85) (B + 129) (nI k) (mkM h0 B D hi z s) = rec23 (nI (k + 9)) (mkM h0 B D' hi' z' s') ∧ IAX (eb + 1) D' hi' z' s' := by
  obtain ⟨ow, np, As, Ps, P, L', bt, h⟩ := h
  have h1 := h.1.1
  by_cases c : ∃ t x q, t < np ∧ x < q_nc (As t) ∧ q < 4 ∧ xs (k + 1) = nI t ∧ xs (k + 2) = nI x ∧ xs (k + 3) = nI q
  · obtain ⟨t, x, q, ht, hx, hq, c0, c1, c2⟩ := c
    obtain ⟨ans, s2, e1, _, _, _, _, v1⟩ := u_cable_t (h0 := h0) (B := B) (N := N) h ht hx hq
    have nth : ¬ thrC N (mkM h0 B D hi z s) (B + 0) (xs (k + 1)) (xs (k + 2)) (xs (k + 3)) := by
      intro hh
      have := thr_none hh
      rw [c0, c1, c2, e1] at this
      cases this
    have sj : sJ (mkM h0 B D hi z s) (B + 129) 0 (Int32.toInt64 ans) = some (mkM h0 B D hi z (s.1, up1 s.2 129 (vp_updL (s.2 129) 0 (Int32.toInt64 ans)))) := sj_129 h1 (by decide)
    generalize hs1 : ((s.1, up1 s.2 129 (vp_updL (s.2 129) 0 (Int32.toInt64 ans))) : mst) = s1 at sj
    have s11 : s1.1 = s.1 := by rw [← hs1]
    have s12 : s1.2 129 0 = Int32.toInt64 ans := by
      have e9 : up1 s.2 129 (vp_updL (s.2 129) 0 (Int32.toInt64 ans)) 129 = vp_updL (s.2 129) 0 (Int32.toInt64 ans) := if_pos rfl
      have e8 : s1.2 = up1 s.2 129 (vp_updL (s.2 129) 0 (Int32.toInt64 ans)) := by rw [← hs1]
      rw [e8, e9, vp_0]
    have ce : cabF N (mkM h0 B D hi z s) (B + 0) (xs (k + 1)) (xs (k + 2)) (xs (k + 3)) (B + 129) = some (0, (mkM h0 B D hi z (s1))) := by
      unfold cabF
      rw [if_neg nth, c0, c1, c2, e1, Option.bind_some]
      dsimp only
      rw [sj, Option.bind_some]
    have g1 : IA eb D hi z ow s1 np As Ps P L' bt := IA_q h (fun k _ => by rw [s11]) (fun v hv => by rw [s11]; exact h.1.2.2.2.1 v hv) Me_r
    obtain ⟨ans', s3, _, e3, z3, m3, l3, v3⟩ := u_cable_t (h0 := h0) (B := B) (N := N) g1 ht hx hq
    have va : ans' = ans := by rw [v3, v1, s11]
    have f3 : F_M_cable N (mkM h0 B D hi z (s1)) (B + 85) (nI t) (nI x) (nI q) = some (ans, (mkM h0 B D hi z (s3))) := by rw [sg_M_cable h1, e3, va]; rfl
    have f4 : F_M_thrown N (mkM h0 B D hi z (s3)) (B + 85) = some (0, (mkM h0 B D hi z (s3))) := by
      rw [sg_M_thrown h1]
      unfold G_M_thrown
      rw [z3]
      rfl
    have f5 : aJ (mkM h0 B D hi z (s3)) (B + 129) 0 = some (Int32.toInt64 ans) := by
      have : aJ (mkM h0 B D hi z (s3)) (B + 129) 0 = some (s3.2 129 0) := aj_129 h1 (by decide)
      rw [this, l3, s12]
    refine ⟨D, hi, z, s3, ?_, ow, np, As, Ps, P, L', bt, IA_up (IA_q g1 (fun _ _ => rfl) g1.1.2.2.2.1 m3) he⟩
    unfold F_Law_law_300 F_Law_law_377 F_Law_law_1958
    rw [xk_1, xk_2, xk_3, xk_9, sc_r hsc (show k + 1 < L by omega), Option.bind_some, sc_r hsc (show k + 2 < L by omega), Option.bind_some, sc_r hsc (show k + 3 < L by omega), Option.bind_some, ce, Option.bind_some]
    dsimp only
    rw [sc_r hsc (show k + 1 < L by omega), Option.bind_some, sc_r hsc (show k + 2 < L by omega), Option.bind_some, sc_r hsc (show k + 3 < L by omega), Option.bind_some, c0, c1, c2, f3, Option.bind_some]
    dsimp only
    rw [f4, Option.bind_some]
    dsimp only
    rw [if_pos rfl, if_pos rfl, f5, Option.bind_some, lgc, if_pos rfl]
  · have th := cab_f (h0 := h0) (B := B) (N := N) h c
    have al : pm_al (mkM h0 B D hi z s) 6 (.inl (9, 0, .inl (fun _ => 0))) = mkM h0 B (upD D hi (.inl (9, 0))) (hi + 1) (z + 6) (up1 s.1 hi (fun _ => 0), s.2) := by
      have := mk_al (h0 := h0) (B := B) (D := D) (hi := hi) (z := z) (s := s) (d := .inl (9, 0)) (f := fun _ => 0) (g := s.2 hi) (c := .inl (9, 0, .inl (fun _ => 0))) (m := 6) rfl
      rw [up1_self] at this
      exact this
    have g1 := IA_thr h he
    generalize upD D hi (.inl (9, 0)) = D' at al g1
    generalize ((up1 s.1 hi (fun _ => 0), s.2) : mst) = s1 at al g1
    generalize (fun k => if k = hi then 0 else ow k) = ow' at g1
    have h1' := g1.1.1
    have ce : cabF N (mkM h0 B D hi z s) (B + 0) (xs (k + 1)) (xs (k + 2)) (xs (k + 3)) (B + 129) = some (1, mkM h0 B D' (hi + 1) (z + 6) s1) := by
      unfold cabF
      rw [if_pos th, al]
    obtain ⟨s3, e3, z3, m3⟩ := t_cable_f (N := N) g1 c
    have f3 : F_M_cable N (mkM h0 B D' (hi + 1) (z + 6) s1) (B + 85) (xs (k + 1)) (xs (k + 2)) (xs (k + 3)) = some (0, mkM h0 B D' (hi + 1) (z + 6) s3) := by rw [sg_M_cable h1', e3]; rfl
    have f4 : F_M_thrown N (mkM h0 B D' (hi + 1) (z + 6) s3) (B + 85) = some (1, mkM h0 B D' (hi + 1) (z + 6) s3) := by
      rw [sg_M_thrown h1']
      unfold G_M_thrown
      rw [z3]
      rfl
    refine ⟨D', hi + 1, z + 6, s3, ?_, ow', np, As, Ps, P, L', bt, IA_q g1 (fun _ _ => rfl) g1.1.2.2.2.1 m3⟩
    unfold F_Law_law_300 F_Law_law_377 F_Law_law_1958
    rw [xk_1, xk_2, xk_3, xk_9, sc_r hsc (show k + 1 < L by omega), Option.bind_some, sc_r hsc (show k + 2 < L by omega), Option.bind_some, sc_r hsc (show k + 3 < L by omega), Option.bind_some, ce, Option.bind_some]
    dsimp only
    rw [sc_r hsc (show k + 1 < L by omega), Option.bind_some, sc_r hsc (show k + 2 < L by omega), Option.bind_some, sc_r hsc (show k + 3 < L by omega), Option.bind_some, f3, Option.bind_some]
    dsimp only
    rw [f4, Option.bind_some]
    dsimp only
    rw [if_pos rfl, if_neg (by decide)]
end CAB
