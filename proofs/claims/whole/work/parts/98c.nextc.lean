section NXC
variable {h0 : Nat → pm_C} {B : Nat} {D : Nat → pd} {hi z : Nat} {s : mst} {N P t : Nat} {A : AP} {ow : Nat → Nat}
theorem c_boxOfTest (hp : PL D hi P) (h : CP s P A) (hA : WF A) {k : Nat} (hk : k < q_ne A) : F_Plan_boxOfTest N (mkM h0 B D hi z s) (B + P) (nI k) = some (nI (q_bx A k), (mkM h0 B D hi z s)) := by
  have hc := hA.1
  unfold WFc at hc
  obtain ⟨w1, w2, w3, w4, w5, w6⟩ := hA.2.2.2.2.2.1 k hk
  obtain ⟨t0, t1, t2, t3, t4⟩ := h.2.2.2.2.1.2.2 k hk
  have hcn := h.2.2.2.2.1.1
  unfold F_Plan_boxOfTest
  rw [pl_rc hp, if_pos rfl, pl_8 hp]
  dsimp only [Option.bind_some]
  rw [L_3, c_at (pl_L19 hp) hcn (by omega) hk (by omega), t3]
  dsimp only [Option.bind_some]
  rw [pl_8 hp]
  dsimp only [Option.bind_some]
  rw [L_4, c_at (pl_L19 hp) hcn (by omega) hk (by omega), t4]
  dsimp only [Option.bind_some]
  rw [c_boxAt hp h hA w4 (by omega)]
  rfl
theorem c_columnsOfAll (hN : 2000 ≤ N) (hf : FX D hi) (hp : PL D hi P) (hA : WF A) (hcp : CP s P A) {wet : Nat} (hwet : wet ≤ 1) : ∃ W, F_Bench_columnsOfAll N (mkM h0 B D hi z s) (B + 5) (B + P) (nI wet) = some (nI W, (mkM h0 B D hi z s)) ∧ W < 2 ^ 24 ∧ ∀ j, W.testBit j = true ↔ ∃ k, k < q_ne A ∧ j = 2 * k + wet := by
  have hc := hA.1
  unfold WFc at hc
  have hne : q_ne A ≤ 12 := by omega
  unfold F_Bench_columnsOfAll
  rw [rcm_5 hf, if_pos rfl]
  refine Exists.elim (lpE (F := fun g k (q : Int32 × mst) => F_Bench_columnsOfAll_5 N (B + P) (nI wet) g q.1 (nI k) (mkM h0 B D hi z (q.2))) (n := q_ne A) (I := fun k q => q.2 = s ∧ ∃ W, q.1 = nI W ∧ W < 2 ^ 24 ∧ ∀ j, W.testBit j = true ↔ ∃ k', k' < k ∧ j = 2 * k' + wet) ?_ N 0 (nI 0, s) (by omega) (by omega) ⟨rfl, 0, rfl, by decide, fun j => by rw [Nat.zero_testBit]; exact ⟨fun h => absurd h (by decide), fun ⟨k', h, _⟩ => by omega⟩⟩) ?_
  · intro g k ⟨q1, q2⟩ hk ⟨j1, W, j2, j3, j4⟩
    dsimp only at j1 j2
    subst j1 j2
    refine ⟨(nI (W ||| 2 ^ (2 * k + wet)), q2), ⟨rfl, _, rfl, lt_or2 j3 (by omega), fun j => ?_⟩, ?_⟩
    · rw [tb_or2, j4 j]
      constructor
      · intro h
        rcases h with ⟨k', h1, h2⟩ | h
        · exact ⟨k', by omega, h2⟩
        · exact ⟨k, by omega, h⟩
      · intro ⟨k', h1, h2⟩
        by_cases hkk : k' = k
        · subst hkk; exact Or.inr h2
        · exact Or.inl ⟨k', by omega, h2⟩
    · show B_Bench_columnsOfAll_5 N (F_Bench_columnsOfAll_5 N (B + P) (nI wet) g) (B + P) (nI wet) (nI W) (nI k) (mkM h0 B D hi z (q2)) = _
      unfold B_Bench_columnsOfAll_5
      rw [pl_8 hp]
      dsimp only [Option.bind_some]
      rw [c_size (pl_L19 hp), hcp.2.2.2.2.1.1]
      dsimp only [Option.bind_some]
      rw [if_neg (nI_ge hk (by omega)), c_columnOf hwet]
      dsimp only [Option.bind_some]
      rw [sh1b (by omega), nI_or, nI_1]
  · intro g ⟨⟨q1, q2⟩, ⟨j1, W, j2, j3, j4⟩, ee⟩
    dsimp only at j1 j2 ee
    subst j1 j2
    refine ⟨W, Eq.trans ee ?_, j3, j4⟩
    show B_Bench_columnsOfAll_5 N (F_Bench_columnsOfAll_5 N (B + P) (nI wet) g) (B + P) (nI wet) (nI W) (nI (q_ne A)) (mkM h0 B D hi z (q2)) = _
    unfold B_Bench_columnsOfAll_5 F_Bench_columnsOfAll_34
    rw [pl_8 hp]
    dsimp only [Option.bind_some]
    rw [c_size (pl_L19 hp), hcp.2.2.2.2.1.1]
    dsimp only [Option.bind_some]
    rw [if_pos (nI_le (Nat.le_refl _) (by omega))]
/-- all columns of a weather are written -/
def AC (s : mst) (P : Nat) (A : AP) (wet : Nat) : Prop := ∀ k, k < q_ne A → has s P (2 * k + wet) ∧ ∀ w, w < 2 ^ q_nt A → ∃ v, cv s P (2 * k + wet) w = nI v ∧ WD A k w (0, 0) wet v
theorem c_bestTest (hN : 2000 ≤ N) (hf : FX D hi) (hp : PL D hi P) (hA : WF A) (hcp : CP s P A) (hP : P = 58 ∨ 130 ≤ P) (hO : OB ow t P) (hOF : OF ow) (hC : COL D hi ow s t P) (hL : FLs s P A (2 ^ q_nt A)) {wet box : Nat} {p3 : Int32} (hwet : wet ≤ 1) (hbox : box < q_nb A) (hac : AC s P A wet) (hz : TZ s) (hfc : q_fc A (2 ^ q_nt A) ≠ 0) : ∃ s', F_Bench_bestTest N (mkM h0 B D hi z s) (B + 5) (B + P) (nI wet) (nI box) p3 = some (cd (q_next A wet box p3), (mkM h0 B D hi z (s'))) ∧ Fm (fun q => q = 5 ∨ q = 53) s s' ∧ TZ s' := by
  have hpw := pow10 hA.1.2.2.2.2.2.1
  have hc := hA.1
  unfold WFc at hc
  have hne : q_ne A ≤ 12 := by omega
  have Ft : ∀ {a c d : mst}, Fm (fun q => q = 5 ∨ q = 53) a c → Fm (fun q => q = 5 ∨ q = 53) c d → Fm (fun q => q = 5 ∨ q = 53) a d := fun h h' => ⟨fun q hq => (h'.1 q hq).trans (h.1 q hq), h'.2.trans h.2⟩
  have keep : ∀ s', Fm (fun q => q = 5 ∨ q = 53) s s' → CP s' P A ∧ COL D hi ow s' t P ∧ FLs s' P A (2 ^ q_nt A) ∧ AC s' P A wet := by
    intro s' hm
    have hm' : Fe (fun q => q = 5 ∨ q = 53) s s' := hm.1
    have e24 : s'.1 (P + 24) = s.1 (P + 24) := hm.1 _ (by omega)
    have e26 : s'.1 (P + 26) = s.1 (P + 26) := hm.1 _ (by omega)
    obtain ⟨k1, k2, k3⟩ := col_keep2 hC hO hm' (fun q hq => by
      intro hq2
      have := hOF q (by omega)
      omega)
    refine ⟨CP_fe hcp hm' (fun q h1 h2 => by omega), k1, ⟨by rw [e24]; exact hL.1, fun w hw hft => by rw [e26]; exact hL.2 w hw hft⟩, fun k hk => ?_⟩
    obtain ⟨a1, a2⟩ := hac k hk
    refine ⟨by unfold has; rw [k2]; exact a1, fun w hw => ?_⟩
    rw [k3 _ w (by omega) a1]
    exact a2 w hw
  unfold F_Bench_bestTest
  rw [rcm_5 hf, if_pos rfl]
  have hnx : q_next A wet box p3 = (q_bs A wet box p3 (q_ne A)).1 := if_neg hfc
  rw [hnx]
  refine Exists.elim (lpE (F := fun f k (q : (Int32 × Nat × Nat) × mst) => F_Bench_bestTest_12 N (B + 5) (B + P) (nI wet) (nI box) p3 f q.1.1 (nI q.1.2.1) (nI q.1.2.2) (nI k) (mkM h0 B D hi z (q.2))) (n := q_ne A) (I := fun k q => q.1 = (cd (q_bs A wet box p3 k).1, (q_bs A wet box p3 k).2) ∧ Fm (fun q => q = 5 ∨ q = 53) s q.2 ∧ TZ q.2) ?_ N 0 ((-1, 0, 0), s) (Nat.zero_le _) (by omega) ⟨by unfold q_bs; rw [cd_0], ⟨fun _ _ => rfl, rfl⟩, hz⟩) ?_
  · intro f k ⟨⟨x5, x6, x7⟩, s1⟩ hk ⟨hx, i2, i3⟩
    dsimp only at hx i2 i3 ⊢
    obtain ⟨c1', C1, L1, A1⟩ := keep s1 i2
    have hbx := q_bx_lt hA hk
    have hwl := q_way_le hA (a := box) (b := q_bx A k)
    obtain ⟨a1, a2⟩ := A1 k hk
    obtain ⟨s2, g1, g2, g3, g4, g5⟩ := c_partFits (N := N) (h0 := h0) (B := B) (z := z) hN hf hp hA hP hO hOF C1 L1 hk hwet a1 a2 i3
    have hlg := q_lg_le (A := A) (T := q_tl A k wet) (2 ^ q_nt A)
    have hun : F_Bench_bestTest_12 N (B + 5) (B + P) (nI wet) (nI box) p3 (f + 1) x5 (nI x6) (nI x7) (nI k) (mkM h0 B D hi z (s1)) = if cd (q_way A box (q_bx A k)) = -1 then F_Bench_bestTest_12 N (B + 5) (B + P) (nI wet) (nI box) p3 f x5 (nI x6) (nI x7) (nI (k + 1)) (mkM h0 B D hi z (s1)) else if cd (q_way A box (q_bx A k)) ≤ p3 then (if x5 = -1 then F_Bench_bestTest_12 N (B + 5) (B + P) (nI wet) (nI box) p3 f (nI k) (nI (q_lg A (q_tl A k wet) (2 ^ q_nt A))) (cd (q_way A box (q_bx A k))) (nI (k + 1)) (mkM h0 B D hi z (s2)) else if nI (q_lg A (q_tl A k wet) (2 ^ q_nt A)) < nI x6 then F_Bench_bestTest_12 N (B + 5) (B + P) (nI wet) (nI box) p3 f (nI k) (nI (q_lg A (q_tl A k wet) (2 ^ q_nt A))) (cd (q_way A box (q_bx A k))) (nI (k + 1)) (mkM h0 B D hi z (s2)) else if nI (q_lg A (q_tl A k wet) (2 ^ q_nt A)) = nI x6 then (if nI x7 ≤ cd (q_way A box (q_bx A k)) then F_Bench_bestTest_12 N (B + 5) (B + P) (nI wet) (nI box) p3 f x5 (nI x6) (nI x7) (nI (k + 1)) (mkM h0 B D hi z (s2)) else F_Bench_bestTest_12 N (B + 5) (B + P) (nI wet) (nI box) p3 f (nI k) (nI (q_lg A (q_tl A k wet) (2 ^ q_nt A))) (cd (q_way A box (q_bx A k))) (nI (k + 1)) (mkM h0 B D hi z (s2))) else F_Bench_bestTest_12 N (B + 5) (B + P) (nI wet) (nI box) p3 f x5 (nI x6) (nI x7) (nI (k + 1)) (mkM h0 B D hi z (s2))) else F_Bench_bestTest_12 N (B + 5) (B + P) (nI wet) (nI box) p3 f x5 (nI x6) (nI x7) (nI (k + 1)) (mkM h0 B D hi z (s1)) := by
      show B_Bench_bestTest_12 N (F_Bench_bestTest_12 N (B + 5) (B + P) (nI wet) (nI box) p3 f) (B + 5) (B + P) (nI wet) (nI box) p3 x5 (nI x6) (nI x7) (nI k) (mkM h0 B D hi z (s1)) = _
      unfold B_Bench_bestTest_12 F_Bench_bestTest_92 F_Bench_bestTest_106
      rw [pl_8 hp]
      dsimp only [Option.bind_some]
      rw [c_size (pl_L19 hp), c1'.2.2.2.2.1.1]
      dsimp only [Option.bind_some]
      rw [if_neg (nI_ge hk (by omega)), c_boxOfTest hp c1' hA hk]
      dsimp only [Option.bind_some]
      rw [c_way_t (by omega) hp c1' hA hbox hbx]
      dsimp only [Option.bind_some]
      rw [g1]
      dsimp only [Option.bind_some]
      rw [rdm_5_4 hf, g4, nI_1]
      dsimp only [Option.bind_some]
    rw [hun]
    have hbl := q_bs_le (wet := wet) (box := box) (p3 := p3) hA k
    by_cases c1 : q_way A box (q_bx A k) = 0
    · rw [if_pos ((cd_n1 (by omega)).mpr c1)]
      refine ⟨((x5, x6, x7), s1), ⟨?_, i2, i3⟩, rfl⟩
      show (x5, x6, x7) = _
      rw [hx]
      conv => rhs; unfold q_bs
      rw [if_pos c1]
    · rw [if_neg (show ¬ cd (q_way A box (q_bx A k)) = -1 from fun e => c1 ((cd_n1 (by omega)).mp e))]
      obtain ⟨W, hW⟩ : ∃ W, q_way A box (q_bx A k) = W + 1 := ⟨q_way A box (q_bx A k) - 1, by omega⟩
      rw [hW, cd_s]
      by_cases c2 : nI W ≤ p3
      · rw [if_pos c2]
        have hb : q_bs A wet box p3 (k + 1) = if (q_bs A wet box p3 k).1 = 0 ∨ q_lg A (q_tl A k wet) (2 ^ q_nt A) < (q_bs A wet box p3 k).2.1 ∨ (q_lg A (q_tl A k wet) (2 ^ q_nt A) = (q_bs A wet box p3 k).2.1 ∧ W < (q_bs A wet box p3 k).2.2) then (k + 1, q_lg A (q_tl A k wet) (2 ^ q_nt A), W) else q_bs A wet box p3 k := by
          conv => lhs; unfold q_bs
          rw [if_neg c1, hW, Nat.add_sub_cancel, if_pos c2]
        have hx5 : x5 = cd (q_bs A wet box p3 k).1 := congrArg Prod.fst hx
        have hx67 : (x6, x7) = (q_bs A wet box p3 k).2 := congrArg Prod.snd hx
        have hx6 : x6 = (q_bs A wet box p3 k).2.1 := congrArg Prod.fst hx67
        have hx7 : x7 = (q_bs A wet box p3 k).2.2 := congrArg Prod.snd hx67
        rw [← hx6, ← hx7] at hb
        have take : (q_bs A wet box p3 k).1 = 0 ∨ q_lg A (q_tl A k wet) (2 ^ q_nt A) < x6 ∨ (q_lg A (q_tl A k wet) (2 ^ q_nt A) = x6 ∧ W < x7) → (fun (k' : Nat) (q : (Int32 × Nat × Nat) × mst) => q.1 = (cd (q_bs A wet box p3 k').1, (q_bs A wet box p3 k').2) ∧ Fm (fun q => q = 5 ∨ q = 53) s q.2 ∧ TZ q.2) (k + 1) ((nI k, q_lg A (q_tl A k wet) (2 ^ q_nt A), W), s2) := by
          intro hh
          refine ⟨?_, Ft i2 g2, g3⟩
          rw [hb, if_pos hh]
          dsimp only
          rw [cd_s]
        have leave : ¬ ((q_bs A wet box p3 k).1 = 0 ∨ q_lg A (q_tl A k wet) (2 ^ q_nt A) < x6 ∨ (q_lg A (q_tl A k wet) (2 ^ q_nt A) = x6 ∧ W < x7)) → (fun (k' : Nat) (q : (Int32 × Nat × Nat) × mst) => q.1 = (cd (q_bs A wet box p3 k').1, (q_bs A wet box p3 k').2) ∧ Fm (fun q => q = 5 ∨ q = 53) s q.2 ∧ TZ q.2) (k + 1) ((x5, x6, x7), s2) := by
          intro hh
          refine ⟨?_, Ft i2 g2, g3⟩
          rw [hb, if_neg hh]
          exact hx
        by_cases d1 : (q_bs A wet box p3 k).1 = 0
        · rw [if_pos (by rw [hx5, d1, cd_0])]
          exact ⟨_, take (Or.inl d1), rfl⟩
        · rw [if_neg (by rw [hx5]; exact fun e => d1 ((cd_n1 (by omega)).mp e))]
          by_cases d2 : q_lg A (q_tl A k wet) (2 ^ q_nt A) < x6
          · rw [if_pos (nI_lt d2 (by omega))]
            exact ⟨_, take (by omega), rfl⟩
          · rw [if_neg (nI_nlt (by omega) (by omega))]
            by_cases d3 : q_lg A (q_tl A k wet) (2 ^ q_nt A) = x6
            · rw [if_pos (by rw [d3])]
              by_cases d4 : W < x7
              · rw [if_neg (nI_ge d4 (by omega))]
                exact ⟨_, take (by omega), rfl⟩
              · rw [if_pos (nI_le (by omega) (by omega))]
                exact ⟨_, leave (by omega), rfl⟩
            · rw [if_neg (fun e => d3 ((nI_eq (by omega) (by omega)).mp e))]
              exact ⟨_, leave (by omega), rfl⟩
      · rw [if_neg c2]
        refine ⟨((x5, x6, x7), s1), ⟨?_, i2, i3⟩, rfl⟩
        show (x5, x6, x7) = _
        rw [hx]
        conv => rhs; unfold q_bs
        rw [if_neg c1, hW, Nat.add_sub_cancel, if_neg c2]
  · intro f ⟨⟨⟨x5, x6, x7⟩, s1⟩, ⟨hx, i2, i3⟩, e⟩
    dsimp only at hx i2 i3 e
    refine ⟨s1, ?_, i2, i3⟩
    refine Eq.trans e ?_
    obtain ⟨c1', _⟩ := keep s1 i2
    show B_Bench_bestTest_12 N (F_Bench_bestTest_12 N (B + 5) (B + P) (nI wet) (nI box) p3 f) (B + 5) (B + P) (nI wet) (nI box) p3 x5 (nI x6) (nI x7) (nI (q_ne A)) (mkM h0 B D hi z (s1)) = _
    unfold B_Bench_bestTest_12 F_Bench_bestTest_112
    rw [pl_8 hp]
    dsimp only [Option.bind_some]
    rw [c_size (pl_L19 hp), c1'.2.2.2.2.1.1]
    dsimp only [Option.bind_some]
    rw [if_pos (nI_le (Nat.le_refl _) (by omega)), show x5 = cd (q_bs A wet box p3 (q_ne A)).1 from congrArg Prod.fst hx]
end NXC
