section WNT
variable {h0 : Nat → pm_C} {B : Nat} {D : Nat → pd} {hi z : Nat} {s : mst} {N np : Nat} {As : Nat → AP} {Ps ow : Nat → Nat} {P L : Nat} {bt : Nat → Nat} {A : AP} {p0 p1 p2 : Int32} {k x p q d t u e y i j v : Nat} {eb : Nat}
theorem W_set {s2 : mst} (h : IA eb D hi z ow s np As Ps P L bt) (ht : t < np) (hj : j < 10) (hv : v ≤ 6) (m : Md [106, 107, 108] [0, 29, 30, 31, 34] (wr1 s (Ps t + 23) j (cd v)) s2) : IA eb D hi z ow (wr1 s2 125 (10 * t + j) (cd v)) np (updA As t (aW (As t) j v)) Ps P L bt := by
  obtain ⟨a1, a2, a3, a4, a5, a6, a7, a8, a9⟩ := h.1.2.2.2.2.2.2.2.2 t ht
  have hq := (pl_A26 a1).1
  have hnp := h.1.2.2.2.2.1
  generalize hs1 : wr1 s (Ps t + 23) j (cd v) = s1 at m
  generalize hs3 : wr1 s2 125 (10 * t + j) (cd v) = s3
  have k1 : ∀ n, n ≠ Ps t + 23 → s1.1 n = s.1 n := by
    intro n n1
    rw [← hs1, wr1_ne n1]
  have kr : ∀ n, 85 ≤ n → n < 130 → s1.1 n = s.1 n := fun n m1 m2 => k1 n (by omega)
  have w2 : ∀ n, n ≠ 106 → n ≠ 107 → n ≠ 108 → n ≠ 85 → s2.1 n = s1.1 n := by
    intro n n1 n2 n3 n4
    refine m.1 n (fun y => ?_) n4
    simp only [List.mem_cons, List.not_mem_nil, or_false] at y
    omega
  have w3 : ∀ n, n ≠ 125 → s3.1 n = s2.1 n := by
    intro n n1
    rw [← hs3, wr1_ne n1]
  have x125 : ∀ i, s3.1 125 i = if i = 10 * t + j then cd v else s.1 125 i := by
    intro i
    rw [← hs3, wr1_at, w2 125 (by decide) (by decide) (by decide) (by decide), kr 125 (by omega) (by omega)]
  have y3 : ∀ n, n < 85 ∨ n = 86 ∨ 130 ≤ n → s3.1 n = s1.1 n := fun n hn => by rw [w3 n (by omega), w2 n (by omega) (by omega) (by omega) (by omega)]
  have z3 : ∀ n, n < 85 ∨ n = 86 ∨ 130 ≤ n → n ≠ Ps t + 23 → s3.1 n = s.1 n := fun n hn m1 => (y3 n hn).trans (k1 n m1)
  have g := aW_ag (A := As t) (j := j) (v := v)
  have hsb := AG_SB g (by decide) (by decide)
  obtain ⟨c1, c2, c3, c4, c5, c6, c7⟩ := a6
  obtain ⟨r1, r2, r3, r4, r5, r6⟩ := a8
  have hp2 : ∀ k, k ∈ pers → 85 < k ∧ k < 130 ∧ k ≠ 106 ∧ k ≠ 107 ∧ k ≠ 108 := by decide
  have rest : ∀ (l : List Nat), (∀ n, n ∈ l → n ∈ pers ∧ n ≠ 125) → ∀ n, n ∈ l → s3.1 n = s.1 n := by
    intro l hl n hn
    have h5 := hp2 n (hl n hn).1
    rw [w3 n (hl n hn).2, w2 n h5.2.2.1 h5.2.2.2.1 h5.2.2.2.2 (by omega), kr n (by omega) (by omega)]
  have S3 : SH D hi ow s3 t (Ps t) (As t) := by
    refine SH_keep3 a7 a2 a1 (fun n hn o1 o2 => z3 n ?_ (fun y => ?_))
    · by_cases g : n < 85 ∨ n = 86 ∨ 130 ≤ n
      · exact g
      · have := h.1.2.2.1 n (by omega) (by omega); omega
    · have := a2 23 (by omega); rw [y] at o1; omega
  have hFT : FT (aW (As t) j v) = FT (As t) := sb_FT hsb a5.2.2.2.2.2.2.1 (g.2 6 (by decide)) (fun f f1 f2 i _ => by rw [g.1 f (by omega) (by simp only [List.mem_cons, List.not_mem_nil, or_false]; omega)]) (fun f f1 f2 i _ => by rw [g.1 f (by omega) (by simp only [List.mem_cons, List.not_mem_nil, or_false]; omega)])
  refine IA_mut h ht (fun n m1 m2 => z3 n m1 (by omega)) ?_ ?_ ?_ (aW_WF a5 hv) ⟨?_, ?_, ?_, ?_, ?_, ?_, ?_⟩ (sb_SH hsb S3 (by rw [ag_ne g (by decide)]; omega) (fun f f1 f2 i _ => by rw [g.1 f (by omega) (by simp only [List.mem_cons, List.not_mem_nil, or_false]; omega)]) (Or.inr hFT)) ⟨?_, ?_, ?_, ?_, ?_, ?_⟩
  · rw [w3 85 (by omega), m.2.1 2 (by decide), kr 85 (by omega) (by omega)]
  · rw [w3 85 (by omega), m.2.1 19 (by decide), kr 85 (by omega) (by omega)]
  · refine OTH_t (s' := s2) (OTH_e (fun n hn => ?_)) ?_
    · have h5 := hp2 n hn
      rw [w2 n h5.2.2.1 h5.2.2.2.1 h5.2.2.2.2 (by omega), kr n (by omega) (by omega)]
    · rw [← hs3]
      exact OTH_k rfl hj
  · exact CPc_e (ag_CPc g (by decide) (by decide) (by decide) (by decide) (by decide) (by decide) c1) (fun n m1 m2 => z3 n (by omega) (by omega))
  · exact CPl_e (ag_CPl g (by decide) (by decide) (by decide) (by decide) (by decide) (by decide) (by decide) (by decide) c2) (fun n m1 m2 => z3 n (by omega) (by omega))
  · exact CPs_e (ag_CPs g (by decide) (by decide) (by decide) (by decide) (by decide) c3) (fun n m1 m2 => z3 n (by omega) (by omega))
  · exact CPt_e (ag_CPt g (by decide) (by decide) (by decide) (by decide) (by decide) (by decide) c4) (fun n m1 m2 => z3 n (by omega) (by omega))
  · exact CPe_e (ag_CPe g (by decide) (by decide) (by decide) (by decide) (by decide) (by decide) c5) (fun n m1 m2 => z3 n (by omega) (by omega))
  · exact CPr_e (ag_CPr g (by decide) (by decide) (by decide) (by decide) c6) (fun n m1 m2 => z3 n (by omega) (by omega))
  · intro i hi
    rw [y3 _ (by omega), ← hs1, wr1_at, aW_wt]
    by_cases c : i = j
    · rw [if_pos c, c, updN_s]
    · rw [if_neg c, updN_n c]
      exact c7 i hi
  · exact RPc_e (ag_RPc g (by decide) (by decide) (by decide) (by decide) (by decide) (by decide) r1) (rest _ (by decide))
  · exact RPo_e (ag_RPo g (by decide) (by decide) (by decide) (by decide) (by decide) r2) (rest _ (by decide))
  · exact RPt_e (ag_RPt g (by decide) (by decide) (by decide) (by decide) (by decide) (by decide) r3) (rest _ (by decide))
  · exact RPe_e (ag_RPe g (by decide) (by decide) (by decide) (by decide) (by decide) (by decide) r4) (rest _ (by decide))
  · exact RPr_e (ag_RPr g (by decide) (by decide) (by decide) (by decide) r5) (rest _ (by decide))
  · intro i hi
    rw [x125, aW_wt]
    by_cases c : i = j
    · rw [if_pos (by omega), c, updN_s]
    · rw [if_neg (by omega), updN_n c]
      exact r6 i hi
theorem st_want (hN : 2000 ≤ N) : STP eb h0 B (fun S => F_BP_want N S (B + 0) p0 p1 p2) (fun s => G_M_want N s p0 p1 p2) := by
  intro D hi z s ⟨ow, np, As, Ps, P, L, bt, h⟩
  have h1 := h.1.1
  have i0 := INV_rps h.1
  have no : ∀ s3 (e1 : F_BP_want N (mkM h0 B D hi z s) (B + 0) p0 p1 p2 = some (0, mkM h0 B D hi z s)) (e2 : G_M_want N s p0 p1 p2 = some (0, s3)) (_ : Me scK scJ s s3), ∃ ans D' hi' z' s1 s3, F_BP_want N (mkM h0 B D hi z s) (B + 0) p0 p1 p2 = some (ans, mkM h0 B D' hi' z' s1) ∧ FX D' hi' ∧ G_M_want N s1 p0 p1 p2 = some (ans, s3) ∧ IAX eb D' hi' z' s3 := fun s3 e1 e2 hm => ⟨0, D, hi, z, s, s3, e1, h1, e2, ow, np, As, Ps, P, L, bt, IA_q h (fun _ _ => rfl) h.1.2.2.2.1 hm⟩
  by_cases c0 : okn np p0
  · obtain ⟨t, ht, rfl⟩ := c0
    obtain ⟨a1, a2, a3, a4, a5, a6, a7, a8, a9⟩ := h.1.2.2.2.2.2.2.2.2 t ht
    have hnp := i0.2.1
    have ht6 : t < 6 := by omega
    have hc := a5.1
    unfold WFc at hc
    have hG : GW (As t) 0 (0, 0) 0 := ⟨a5, by omega, by omega, Or.inl rfl⟩
    have pre : ∀ (v : Int32) (S' : pm_S), (v = 0 ∨ v = 1) → F_Plan_setWanted N (mkM h0 B D hi z s) (B + Ps t) p1 p2 = some (v, S') → F_BP_want N (mkM h0 B D hi z s) (B + 0) (nI t) p1 p2 = some (v, S') := by
      intro v S' hv e
      unfold F_BP_want F_BP_want_26 F_BP_want_27
      rw [rcm_0 h1, if_pos rfl, c_planAt_t h.1 ht]
      dsimp only [Option.bind_some]
      rw [e]
      dsimp only [Option.bind_some]
      rcases hv with rfl | rfl
      · rw [if_pos rfl, if_pos (Or.inl rfl)]
      · rw [if_neg i10, if_pos (Or.inr rfl)]
    have sw : F_Plan_setWanted N (mkM h0 B D hi z s) (B + Ps t) p1 p2 = if vat 10 (s.1 (Ps t + 10 + 4)) p1 = -1 then some (0, mkM h0 B D hi z s) else (F_BP_cableOf N (mkM h0 B D hi z s) (vat 10 (s.1 (Ps t + 10 + 4)) p1)).bind fun (v6, S5) => if p2 = (-1) then F_Plan_setWanted_53 N (B + Ps t) p1 p2 S5 else ((F_Plan_hasPair N S5 (B + Ps t) v6 p2).bind fun (v10, S9) => if v10 = 0 then F_Plan_setWanted_51 N S9 else ((F_Plan_isWantedByOther N S9 (B + Ps t) v6 p2 p1).bind fun (v12, S11) => if v12 = 0 then F_Plan_setWanted_53 N (B + Ps t) p1 p2 S11 else F_Plan_setWanted_51 N S11)) := by
      unfold F_Plan_setWanted
      rw [pl_rc a1, if_pos rfl, pl_5 a1]
      dsimp only [Option.bind_some]
      rw [yt_3 (pl_T10 a1)]
      dsimp only [Option.bind_some]
      rw [ar_v (pl_T10 a1).2.2.2.2.2]
      rfl
    by_cases c1 : okn 10 p1
    · obtain ⟨j, hj, rfl⟩ := c1
      have e14 : s.1 (Ps t + 10 + 4) j = cd (q_hm (As t) 0 j) := a6.2.1.2.2.2 j hj
      rw [vat_nI hj (by decide), e14] at sw
      -- the reference up to the HOUSE's place
      have ref : ∀ s1, RPs s1 np As → ∃ s2, RP s2 t (As t) ∧ RPs s2 np As ∧ RW s2 t (As t) 0 (0, 0) 0 ∧ Md [106, 107, 108] [0, 29, 30, 31, 34] s1 s2 ∧ G_M_want N s1 (nI t) (nI j) p2 = if cd (r6 (q_hm (As t) 0 j)) = -1 then some (0, s2) else if p2 = -1 then G_M_want_66 N (nI t) (nI j) p2 (cd (r6 (q_hm (As t) 0 j))) N 0 s2 else (G_M_isPair N s2 (nI t) (cd (r6 (q_hm (As t) 0 j)) / 6) p2).bind fun r13 => if r13.1 = 0 then some (0, r13.2) else G_M_want_66 N (nI t) (nI j) p2 (cd (r6 (q_hm (As t) 0 j))) N 0 r13.2 := by
        intro s1 hI
        have i1 := rps0 hI
        have i2 := (i1.2.2 t ht).2
        obtain ⟨s3, f1, f2, f3⟩ := r_lay (N := N) (by omega) ht6 hG i2
        have f1' : G_M_lay N (wrI s1 85 0 0) (nI t) 0 0 = some s3 := f1
        have m0 : Md [106, 107, 108] [0, 29, 30, 31, 34] s1 (wrI s1 85 0 0) := Md_f (by decide)
        have m1 : Md [106, 107, 108] [0, 29, 30, 31, 34] s1 s3 := Md_t m0 (Md_m f3 (by decide) (by decide))
        refine ⟨s3, RP_md i2 f3 (by decide), ⟨by rw [m1.2.1 19 (by decide)]; exact hI.1, hI.2.1, fun t' ht' => ⟨(hI.2.2 t' ht').1, RP_md (hI.2.2 t' ht').2 m1 (by decide)⟩⟩, f2, m1, ?_⟩
        unfold G_M_want G_M_want_61 G_M_want_63
        rw [r_isPlan_t i1.1 i1.2.1 ht, Option.bind_some]
        dsimp only
        rw [if_neg i10, r_isHouse_t hj, Option.bind_some]
        dsimp only
        rw [if_neg i10, f1', Option.bind_some, r_hangsAt (by omega) a5 f2 hj, Option.bind_some]
      have toMe : ∀ s1 s2, Md [106, 107, 108] [0, 29, 30, 31, 34] s1 s2 → Me scK scJ s1 s2 := fun s1 s2 m => Me_m (Me_of m) (by decide) (by decide)
      by_cases c2 : q_hm (As t) 0 j = 0
      · obtain ⟨s2, b1, b2, b3, b4, b5⟩ := ref s i0
        rw [c2, r6_0, cd_0, if_pos rfl] at b5
        rw [c2, cd_0, if_pos rfl] at sw
        exact no s2 (pre 0 _ (Or.inl rfl) sw) b5 (toMe _ _ b4)
      · obtain ⟨u, hu⟩ : ∃ u, q_hm (As t) 0 j = u + 1 := ⟨q_hm (As t) 0 j - 1, by omega⟩
        have hus := (q_hg_st a5 ((q_hm_s a5).mp hu)).1
        have hul := q_st_lt a5 hus
        have hux := a5.2.1 _ hus.1
        rw [hu, cd_s, if_neg (nI_n1 (by omega)), c_cableOf (by omega)] at sw
        dsimp only [Option.bind_some] at sw
        have ediv : nI (6 * (u / 8) + u % 8) / 6 = nI (u / 8) := by
          rw [L_6, pk_div (by omega) (by omega) (by omega), show (6 * (u / 8) + u % 8) / 6 = u / 8 by omega]
        -- both set it
        have yes : ∀ v, v ≤ 6 → p2 = cd v → F_Plan_setWanted N (mkM h0 B D hi z s) (B + Ps t) (nI j) p2 = F_Plan_setWanted_53 N (B + Ps t) (nI j) p2 (mkM h0 B D hi z s) → (∀ s1, RPs s1 np As → ∃ s2, Md [106, 107, 108] [0, 29, 30, 31, 34] s1 s2 ∧ G_M_want N s1 (nI t) (nI j) p2 = G_M_want_135 N (nI t) (nI j) p2 s2) → ∃ ans D' hi' z' s1 s3, F_BP_want N (mkM h0 B D hi z s) (B + 0) (nI t) (nI j) p2 = some (ans, mkM h0 B D' hi' z' s1) ∧ FX D' hi' ∧ G_M_want N s1 (nI t) (nI j) p2 = some (ans, s3) ∧ IAX eb D' hi' z' s3 := by
          intro v hv ev e1 e2
          subst ev
          have hq := (pl_A26 a1).1
          obtain ⟨s2, m, e3⟩ := e2 (wr1 s (Ps t + 23) j (cd v)) (RPs_e i0 (fun n n1 n2 => wr1_ne (by omega)))
          refine ⟨1, D, hi, z, wr1 s (Ps t + 23) j (cd v), wr1 s2 125 (10 * t + j) (cd v), pre 1 _ (Or.inr rfl) ?_, h1, ?_, ow, np, _, Ps, P, L, bt, W_set h ht hj hv m⟩
          · rw [e1]
            unfold F_Plan_setWanted_53
            rw [pl_10 a1]
            dsimp only [Option.bind_some]
            rw [ar_s (pl_A23 a1), ws_nI hj (by decide)]
            rfl
          · rw [e3]
            unfold G_M_want_135
            rw [L_10, nI_mul, nI_add, stA_nI (by omega) (by decide)]
            rfl
        by_cases c3 : p2 = -1
        · subst c3
          rw [if_pos rfl] at sw
          refine yes 0 (by omega) cd_0.symm sw (fun s1 hI => ?_)
          obtain ⟨s2, b1, b2, b3, b4, b5⟩ := ref s1 hI
          rw [hu, r6_s, cd_s, if_neg (nI_n1 (by omega)), if_pos rfl, r_unwanted (by omega) a5 b3] at b5
          exact ⟨s2, b4, b5⟩
        · rw [if_neg c3] at sw
          by_cases c4 : okn (q_pr (As t) (u / 8)) p2
          · obtain ⟨p, hp, rfl⟩ := c4
            rw [c_hasPair_t a1 a6 a5 hus.1 hp] at sw
            dsimp only [Option.bind_some] at sw
            rw [if_neg i10] at sw
            have ref2 : ∀ s1, RPs s1 np As → ∃ s2, RP s2 t (As t) ∧ RW s2 t (As t) 0 (0, 0) 0 ∧ Md [106, 107, 108] [0, 29, 30, 31, 34] s1 s2 ∧ G_M_want N s1 (nI t) (nI j) (nI p) = G_M_want_66 N (nI t) (nI j) (nI p) (nI (6 * (u / 8) + u % 8)) N 0 s2 := by
              intro s1 hI
              obtain ⟨s2, b1, b2, b3, b4, b5⟩ := ref s1 hI
              rw [hu, r6_s, cd_s, if_neg (nI_n1 (by omega)), if_neg c3, ediv, r_isPair_t2 b2 ht hus.1 hp, Option.bind_some] at b5
              dsimp only at b5
              rw [if_neg i10] at b5
              exact ⟨s2, b1, b3, b4, b5⟩
            rcases c_wanted (N := N) (h0 := h0) (B := B) (z := z) (by omega) a1 a6 a5 hus.1 hp hj with ⟨e, hw⟩ | ⟨e, hw⟩
            · rw [e] at sw
              dsimp only [Option.bind_some] at sw
              rw [if_neg i10] at sw
              obtain ⟨s2, b1, b3, b4, b5⟩ := ref2 s i0
              rcases r_wanted (N := N) (w := 0) (wet := 0) (b := (0, 0)) (by omega) ht6 a5 b1 b3 (show p < 6 by omega) hj hul.1 hul.2.1 with ⟨g, gw⟩ | ⟨g, gw⟩
              · exact no s2 (pre 0 _ (Or.inl rfl) sw) (b5.trans g) (toMe _ _ b4)
              · obtain ⟨o, ho, hq⟩ := hw
                exact absurd hq (gw o ho)
            · rw [e] at sw
              dsimp only [Option.bind_some] at sw
              rw [if_pos rfl] at sw
              refine yes (p + 1) (by omega) (cd_s p).symm sw (fun s1 hI => ?_)
              obtain ⟨s2, b1, b3, b4, b5⟩ := ref2 s1 hI
              rcases r_wanted (N := N) (w := 0) (wet := 0) (b := (0, 0)) (by omega) ht6 a5 b1 b3 (show p < 6 by omega) hj hul.1 hul.2.1 with ⟨g, gw⟩ | ⟨g, gw⟩
              · obtain ⟨o, ho, hq⟩ := gw
                exact absurd hq (hw o ho)
              · exact ⟨s2, b4, b5.trans g⟩
          · have np2 : ¬ ∃ x p, x < q_nc (As t) ∧ p < q_pr (As t) x ∧ nI (u / 8) = nI x ∧ p2 = nI p := by
              intro ⟨x, p, y1, y2, y3, y4⟩
              have ex : u / 8 = x := (nI_eq (by omega) (by omega)).mp y3
              subst ex
              exact c4 ⟨p, y2, y4⟩
            rw [c_hasPair_f a1 a6 a5 np2] at sw
            dsimp only [Option.bind_some] at sw
            rw [if_pos rfl] at sw
            obtain ⟨s2, b1, b2, b3, b4, b5⟩ := ref s i0
            rw [hu, r6_s, cd_s, if_neg (nI_n1 (by omega)), if_neg c3, ediv, r_isPair_f2 b2 ht np2, Option.bind_some] at b5
            dsimp only at b5
            rw [if_pos rfl] at b5
            exact no s2 (pre 0 _ (Or.inl rfl) sw) b5 (toMe _ _ b4)
    · rw [vat_no (by decide) c1, if_pos rfl] at sw
      refine no (wrI s 85 0 0) (pre 0 _ (Or.inl rfl) sw) ?_ Me_0
      have i1 := rps0 i0
      unfold G_M_want G_M_want_20
      rw [r_isPlan_t i1.1 i1.2.1 ht, Option.bind_some]
      dsimp only
      rw [if_neg i10, r_isHouse_f c1, Option.bind_some]
      dsimp only
      rw [if_pos rfl]
  · refine no (wrI s 85 0 0) ?_ ?_ Me_0
    · unfold F_BP_want F_BP_want_26 F_BP_want_27
      rw [rcm_0 h1, if_pos rfl, c_planAt_f h.1 c0]
      dsimp only [Option.bind_some]
      rw [if_pos (Or.inl rfl)]
    · have i1 := rps0 i0
      unfold G_M_want G_M_want_20
      rw [r_isPlan_f i1.1 i1.2.1 c0, Option.bind_some]
      dsimp only
      rw [if_pos rfl]
end WNT
