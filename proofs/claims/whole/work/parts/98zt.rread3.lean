section RR3
variable {N t L i : Nat} {s : mst} {A : AP} {b : Nat → Nat}
theorem r_stm (hN : 1000 ≤ N) (ht : t < 7) (hA : DA A) (hq : q_nq A < 50) (hx : RTX s b L) (hi2 : i < L) (hs : RST s t A i) (rc : mst → Option (Int32 × mst)) : ∃ (w : Int32) (s' : mst), ((G_M_look N (wrI s 85 3 (nI (i + 1)))).bind fun r12 => if r12.1 = 99 then G_M_readPlan_140 N rc (nI t) r12.1 r12.2 else (if r12.1 = 106 then G_M_readPlan_140 N rc (nI t) r12.1 r12.2 else (if r12.1 = 104 then G_M_readPlan_140 N rc (nI t) r12.1 r12.2 else G_M_readPlan_131 N r12.2))) = (if w = 0 then some (0, s') else rc s') ∧ RRF t s s' ∧ ((∃ f, sttA b A i = .inl f ∧ w = 0 ∧ s'.1 85 4 = nI f) ∨ ∃ A' j, sttA b A i = .inr (A', j) ∧ w = 1 ∧ RST s' t A' j ∧ i + 8 ≤ j ∧ j ≤ L) := by
  obtain ⟨h3, h4, hc, ho⟩ := id hs
  have hT := hx.1
  have m0 : Md [] [3, 4, 5] s (wrI s 85 3 (nI (i + 1))) := Md_f (by decide)
  generalize hs0 : wrI s 85 3 (nI (i + 1)) = s0 at m0
  have a3 : s0.1 85 3 = nI (i + 1) := by rw [← hs0, wrI_1, wr1_at, if_pos rfl]
  have hx0 := RTX_md hx m0 (by decide) (by decide)
  obtain ⟨s1, l1, l2, l3⟩ := r_look (N := N) hN hx0 (by omega) a3
  have hle := sk_le (i := i + 1) hT (by omega)
  have hge := sk_ge (i := i + 1) hT
  have m1 : Md [] [3, 4, 5] s s1 := Md_t m0 (Md_m l2 (by decide) (by decide))
  have a4 : s1.1 85 4 = -1 := by
    rw [l2.2.1 4 (by decide), ← hs0, wrI_1, wr1_at, if_neg (by decide)]
    exact h4
  rw [l1, Option.bind_some]
  dsimp only
  have m2 : Md [] [3, 4, 5] s (wrI s1 85 3 (nI (sk b (i + 1) + 1))) := Md_t m1 (Md_f (by decide))
  have e2 : (s1.1 85 3) + 1 = nI (sk b (i + 1) + 1) := by rw [l3, nI_1]
  generalize hs2 : wrI s1 85 3 (nI (sk b (i + 1) + 1)) = s2 at m2
  have b3 : s2.1 85 3 = nI (sk b (i + 1) + 1) := by rw [← hs2, wrI_1, wr1_at, if_pos rfl]
  have b4 : s2.1 85 4 = -1 := by rw [← hs2, wrI_1, wr1_at, if_neg (by decide)]; exact a4
  have hx2 := RTX_md hx m2 (by decide) (by decide)
  have hs2' : RST s2 t A (sk b (i + 1) + 1) := ⟨b3, b4, md_RPc hc m2, md_RPo ho m2⟩
  have hbm : ∀ v, b (sk b (i + 1)) = v + 1 → sk b (i + 1) + 1 ≤ L := by
    intro v hv
    by_cases c : sk b (i + 1) < L
    · omega
    · have := (hT.2.2 (sk b (i + 1))).mpr (by omega)
      omega
  have e180 : ∀ (w : Int32) (s' : mst), G_M_readPlan_180 N rc (nI t) w s' = if w = 0 then some (0, s') else rc s' := by
    intro w s'
    unfold G_M_readPlan_180 G_M_readPlan_185
    rfl
  have fin : ∀ (r : Nat ⊕ (AP × Nat)) (w : Int32) (s' : mst), sttA b A i = r → STR b t L s2 s' (sk b (i + 1) + 1) w r → RRF t s s' ∧ ((∃ f, sttA b A i = .inl f ∧ w = 0 ∧ s'.1 85 4 = nI f) ∨ ∃ A' j, sttA b A i = .inr (A', j) ∧ w = 1 ∧ RST s' t A' j ∧ i + 8 ≤ j ∧ j ≤ L) := by
    intro r w s' er hS
    refine ⟨RRF_t (RRF_m m2) hS.1, ?_⟩
    rw [er]
    rcases hS.2 with ⟨f, u1, u2, u3⟩ | ⟨A', j, u1, u2, u3, u4, u5⟩
    · exact Or.inl ⟨f, u1, u2, u3⟩
    · exact Or.inr ⟨A', j, u1, u2, u3, by omega, u5⟩
  by_cases c1 : b (sk b (i + 1)) = 100
  · have e1 : cd (b (sk b (i + 1))) = 99 := (cd_c hT (v := 99) (by decide)).mpr c1
    obtain ⟨w, s', t1, t2⟩ := r_readCable (N := N) hN ht hA hx2 (hbm 99 c1) hs2'
    obtain ⟨g1, g2⟩ := fin (cabA b A (sk b (i + 1) + 1)) w s' (by unfold sttA; rw [if_pos c1]) t2
    refine ⟨w, s', ?_, g1, g2⟩
    rw [if_pos e1]
    unfold G_M_readPlan_140
    rw [if_pos e1, e2, hs2, t1, Option.bind_some]
    exact e180 w s'
  · have n1 : ¬ cd (b (sk b (i + 1))) = 99 := fun y => c1 ((cd_c hT (v := 99) (by decide)).mp y)
    by_cases c2 : b (sk b (i + 1)) = 107
    · have e1 : cd (b (sk b (i + 1))) = 106 := (cd_c hT (v := 106) (by decide)).mpr c2
      obtain ⟨w, s', t1, t2⟩ := r_readTold0 (N := N) hN ht hA hq hx2 (hbm 106 c2) hs2'
      obtain ⟨g1, g2⟩ := fin (joiA b A (sk b (i + 1) + 1)) w s' (by unfold sttA; rw [if_neg c1, if_pos c2]) t2
      refine ⟨w, s', ?_, g1, g2⟩
      rw [if_neg n1, if_pos e1]
      unfold G_M_readPlan_140 G_M_readPlan_177
      rw [if_neg n1, if_pos e1, e2, hs2, t1, Option.bind_some]
      exact e180 w s'
    · have n2 : ¬ cd (b (sk b (i + 1))) = 106 := fun y => c2 ((cd_c hT (v := 106) (by decide)).mp y)
      by_cases c3 : b (sk b (i + 1)) = 105
      · have e1 : cd (b (sk b (i + 1))) = 104 := (cd_c hT (v := 104) (by decide)).mpr c3
        obtain ⟨w, s', t1, t2⟩ := r_readTold1 (N := N) hN ht hA hq hx2 (hbm 104 c3) hs2'
        obtain ⟨g1, g2⟩ := fin (houA b A (sk b (i + 1) + 1)) w s' (by unfold sttA; rw [if_neg c1, if_neg c2, if_pos c3]) t2
        refine ⟨w, s', ?_, g1, g2⟩
        rw [if_neg n1, if_neg n2, if_pos e1]
        unfold G_M_readPlan_140 G_M_readPlan_177
        rw [if_neg n1, if_neg n2, e2, hs2, t1, Option.bind_some]
        exact e180 w s'
      · have n3 : ¬ cd (b (sk b (i + 1))) = 104 := fun y => c3 ((cd_c hT (v := 104) (by decide)).mp y)
        refine ⟨0, wr1 s1 85 4 (nI (sk b (i + 1))), ?_, RRF_m (Md_t m1 (Md_f (by decide))), Or.inl ⟨sk b (i + 1), by unfold sttA; rw [if_neg c1, if_neg c2, if_neg c3], rfl, by rw [wr1_at, if_pos rfl]⟩⟩
        rw [if_neg n1, if_neg n2, if_neg n3, if_pos rfl]
        unfold G_M_readPlan_131
        rw [l3, r_fails a4, Option.bind_some]
        dsimp only
        rw [if_pos (Or.inl rfl)]
theorem r_loop (hN : 1000 ≤ N) (ht : t < 7) : ∀ k A i s g, DA A → RTX s b L → RST s t A i → i ≤ L → 8 * q_nq A ≤ i → L < i + k → L < i + g → ∃ w s', G_M_readPlan_89 N (nI t) g s = some (w, s') ∧ RRF t s s' ∧ ((∃ f, rdF b k A i = .inl f ∧ w = 0 ∧ s'.1 85 4 = nI f) ∨ ∃ A', rdF b k A i = .inr A' ∧ w = 1 ∧ s'.1 85 4 = -1 ∧ RPc s' t A' ∧ RPo s' t A') := by
  intro k
  induction k with
  | zero => intro A i s g _ _ _ h1 _ h2; omega
  | succ k ih =>
    intro A i s g hA hx hs hi2 hq8 hk hg
    obtain ⟨h3, h4, hc, ho⟩ := id hs
    have hT := hx.1
    have hL := hT.1
    obtain ⟨g, rfl⟩ : ∃ g', g = g' + 1 := ⟨g - 1, by omega⟩
    obtain ⟨s1, l1, l2, l3⟩ := r_look (N := N) hN hx hi2 h3
    have hle := sk_le hT hi2
    have hge := sk_ge (i := i) hT
    have m1 : Md [] [3, 4, 5] s s1 := Md_m l2 (by decide) (by decide)
    have a4 : s1.1 85 4 = -1 := by rw [l2.2.1 4 (by decide)]; exact h4
    have hx1 := RTX_md hx m1 (by decide) (by decide)
    have hs1 : RST s1 t A (sk b i) := ⟨l3, a4, md_RPc hc m1, md_RPo ho m1⟩
    show ∃ w s', GB_M_readPlan_89 N (G_M_readPlan_89 N (nI t) g) (nI t) s = some (w, s') ∧ _
    unfold GB_M_readPlan_89
    rw [l1, Option.bind_some]
    dsimp only
    by_cases c60 : b (sk b i) = 60
    · have hlt : sk b i < L := by
        by_cases c : sk b i < L
        · exact c
        · have := (hT.2.2 (sk b i)).mpr (by omega)
          omega
      rw [if_pos (show cd (b (sk b i)) = 59 from (cd_c hT (v := 59) (by decide)).mpr c60), l3, nI_1]
      obtain ⟨w, s2, e2, f2, r2⟩ := r_stm (N := N) hN ht hA (by omega) hx1 hlt hs1 (G_M_readPlan_89 N (nI t) g)
      rw [e2]
      rcases r2 with ⟨f, u1, u2, u3⟩ | ⟨A', j, u1, u2, u3, u4, u5⟩
      · refine ⟨0, s2, by rw [if_pos u2], RRF_t (RRF_m m1) f2, Or.inl ⟨f, ?_, rfl, u3⟩⟩
        simp only [rdF]
        rw [if_pos c60, u1]
      · obtain ⟨hA', hq'⟩ := sttA_DA hA (by omega) u1
        have hx2 := RTX_rf hx1 f2
        obtain ⟨w3, s3, e3, f3, q3⟩ := ih A' j s2 g hA' hx2 u3 u5 (by omega) (by omega) (by omega)
        refine ⟨w3, s3, by rw [u2, if_neg i10, e3], RRF_t (RRF_m m1) (RRF_t f2 f3), ?_⟩
        have er : rdF b (k + 1) A i = rdF b k A' j := by
          simp only [rdF]
          rw [if_pos c60, u1]
        rw [er]
        exact q3
    · rw [if_neg (show ¬ cd (b (sk b i)) = 59 from fun y => c60 ((cd_c hT (v := 59) (by decide)).mp y))]
      unfold G_M_readPlan_190 G_M_readPlan_212 G_M_readPlan_217
      rw [l3, hx1.2.1]
      by_cases c0 : b (sk b i) = 0
      · have eL : sk b i = L := by have := (hT.2.2 _).mp c0; omega
        rw [eL, if_pos rfl, if_pos (Or.inr rfl)]
        refine ⟨1, s1, rfl, RRF_m m1, Or.inr ⟨A, ?_, rfl, a4, hs1.2.2.1, hs1.2.2.2⟩⟩
        simp only [rdF]
        rw [if_neg c60, if_pos c0]
      · have hlt : sk b i < L := by
          by_cases c : sk b i < L
          · exact c
          · exact absurd ((hT.2.2 (sk b i)).mpr (by omega)) c0
        rw [if_neg (fun y => by have := (nI_eq (by omega) (by omega)).mp y; omega), r_fails a4, Option.bind_some]
        dsimp only
        rw [if_pos rfl, if_pos (Or.inl rfl)]
        refine ⟨0, _, rfl, RRF_m (Md_t m1 (Md_f (by decide))), Or.inl ⟨sk b i, ?_, rfl, by rw [wr1_at, if_pos rfl]⟩⟩
        simp only [rdF]
        rw [if_neg c60, if_neg c0]
theorem r_readPlan (hN : 1000 ≤ N) (ht : t < 7) (hx : RTX s b L) (h19 : s.1 85 19 = nI t) : ∃ w s', G_M_readPlan N s = some (w, s') ∧ RRF t s s' ∧ ((∃ f, rdT b = .inl f ∧ w = 0 ∧ s'.1 85 4 = nI f) ∨ ∃ A', rdT b = .inr A' ∧ w = 1 ∧ s'.1 85 4 = -1 ∧ RPc s' t A' ∧ RPo s' t A') := by
  have hT := hx.1
  have hL := hT.1
  unfold G_M_readPlan
  rw [h19]
  have m0 : Md [] [3, 4, 5] s (wrI (wrI s 85 3 0) 85 4 (-1)) := Md_t (Md_f (by decide)) (Md_f (by decide))
  generalize hs0 : wrI (wrI s 85 3 0) 85 4 (-1) = s0 at m0
  have a3 : s0.1 85 3 = nI 0 := by rw [← hs0, wrI_1, wr1_at, if_neg (by decide), wrI_1, wr1_at, if_pos rfl]; rfl
  have a4 : s0.1 85 4 = -1 := by rw [← hs0, wrI_1, wr1_at, if_pos rfl]
  rw [stA_nI (by omega) (by decide), Option.bind_some, stA_nI (by omega) (by decide), Option.bind_some, stA_nI (by omega) (by decide), Option.bind_some]
  generalize hs1 : wr1 (wr1 (wr1 s0 88 t 0) 93 t 0) 99 t 0 = s1
  have f1 : RRF t s s1 := by
    rw [← hs1]
    exact RRF_t (RRF_m m0) (RRF_t (RRF_t (RRF_1 (by decide) rfl) (RRF_1 (by decide) rfl)) (RRF_1 (by decide) rfl))
  have k85 : s1.1 85 = s0.1 85 := by rw [← hs1, wr1_ne (by decide), wr1_ne (by decide), wr1_ne (by decide)]
  have x88 : s1.1 88 t = nI 0 := by rw [← hs1, wr1_ne (by decide), wr1_ne (by decide), wr1_at, if_pos rfl]; rfl
  have x93 : s1.1 93 t = nI 0 := by rw [← hs1, wr1_ne (by decide), wr1_at, if_pos rfl]; rfl
  have x99 : s1.1 99 t = nI 0 := by rw [← hs1, wr1_at, if_pos rfl]; rfl
  have hx1 := RTX_rf hx f1
  obtain ⟨s2, l1, l2, l3⟩ := r_look (N := N) (i := 0) hN hx1 (by omega) (by rw [k85]; exact a3)
  have hle := sk_le (i := 0) hT (by omega)
  have m2 : Md [] [3, 4, 5] s1 s2 := Md_m l2 (by decide) (by decide)
  have b4 : s2.1 85 4 = -1 := by rw [l2.2.1 4 (by decide), k85]; exact a4
  have hx2 := RTX_md hx1 m2 (by decide) (by decide)
  rw [l1, Option.bind_some]
  dsimp only
  by_cases c98 : b (sk b 0) = 99
  · have hlt : sk b 0 + 1 ≤ L := by
      by_cases c : sk b 0 < L
      · omega
      · have := (hT.2.2 (sk b 0)).mpr (by omega)
        omega
    rw [if_pos (show cd (b (sk b 0)) = 98 from (cd_c hT (v := 98) (by decide)).mpr c98), l3, nI_1]
    have m3 : Md [] [3, 4, 5] s1 (wrI s2 85 3 (nI (sk b 0 + 1))) := Md_t m2 (Md_f (by decide))
    generalize hs3 : wrI s2 85 3 (nI (sk b 0 + 1)) = s3 at m3
    have c3 : s3.1 85 3 = nI (sk b 0 + 1) := by rw [← hs3, wrI_1, wr1_at, if_pos rfl]
    have c4 : s3.1 85 4 = -1 := by rw [← hs3, wrI_1, wr1_at, if_neg (by decide)]; exact b4
    have hx3 := RTX_md hx1 m3 (by decide) (by decide)
    obtain ⟨f4, g4⟩ := r_numP (N := N) (p0 := 2) (p1 := 8) (p3 := nI t) (p4 := 0) hN hx3 hlt c3 c4 (ok := fun v => 2 ≤ v ∧ v ≤ 8) (fun v hv => ok_in (a := 2) (c := 8) (by omega) (by omega) hv)
    unfold rdT
    rw [if_pos c98]
    cases e1 : nmR b (sk b 0 + 1) (fun v => 2 ≤ v ∧ v ≤ 8) with
    | inl f =>
      obtain ⟨s4, q1, q2, q3⟩ := f4 f e1
      rw [q1, Option.bind_some]
      dsimp only
      rw [if_pos rfl]
      exact ⟨0, s4, rfl, RRF_t f1 (RRF_m (Md_t m3 q2)), Or.inl ⟨f, rfl, rfl, q3⟩⟩
    | inr p =>
      obtain ⟨v, j⟩ := p
      obtain ⟨s4, q1, q2, q3, q4, q5⟩ := g4 v j e1
      obtain ⟨o1, n1, _⟩ := nmR_ok e1
      have bb := nmb_b hT hlt n1
      have m4 : Md [] [3, 4, 5] s1 s4 := Md_t m3 q2
      rw [q1, Option.bind_some]
      dsimp only
      rw [if_neg i10, stA_nI (by omega) (by decide), Option.bind_some, q5]
      generalize hs5 : wr1 s4 87 t (nI v) = s5
      have f5 : RRF t s s5 := by
        rw [← hs5]
        exact RRF_t (RRF_t f1 (RRF_m m4)) (RRF_1 (by decide) rfl)
      have k5 : ∀ m, m ≠ 87 → m ≠ 85 → s5.1 m = s1.1 m := fun m m1 m2 => by rw [← hs5, wr1_ne m1, m4.1 m (by simp) m2]
      have k585 : s5.1 85 = s4.1 85 := by rw [← hs5, wr1_ne (by decide)]
      have z : ∀ f k, ¬ (f = 0 ∧ k = 0) → aB v f k = 0 := fun f k c => if_neg c
      have n0 : q_nb (aB v) = v := show (if 0 = 0 ∧ 0 = 0 then v else 0) = v from if_pos ⟨rfl, rfl⟩
      have n1' : q_nc (aB v) = 0 := z 0 1 (by decide)
      have n2' : q_nq (aB v) = 0 := z 0 2 (by decide)
      have n3' : q_ns (aB v) = 0 := z 0 3 (by decide)
      have hs5' : RST s5 t (aB v) j := by
        refine ⟨by rw [k585]; exact q3, by rw [k585]; exact q4, ⟨?_, ?_, fun x hx => by omega⟩, ?_, ?_, fun k hk => by omega⟩
        · rw [← hs5, wr1_at, if_pos rfl, n0]
        · rw [k5 88 (by decide) (by decide), n1']; exact x88
        · rw [k5 93 (by decide) (by decide), n2', n3']; exact x93
        · rw [k5 99 (by decide) (by decide), n3']; exact x99
      obtain ⟨w, s6, e6, f6, q6⟩ := r_loop (N := N) (b := b) (L := L) hN ht 301 (aB v) j s5 N (aB_DA o1) (RTX_rf hx f5) hs5' bb.2.2 (by omega) (by omega) (by omega)
      exact ⟨w, s6, e6, RRF_t f5 f6, q6⟩
  · rw [if_neg (show ¬ cd (b (sk b 0)) = 98 from fun y => c98 ((cd_c hT (v := 98) (by decide)).mp y)), l3, r_fails b4, Option.bind_some]
    dsimp only
    rw [if_pos (Or.inl rfl)]
    refine ⟨0, _, rfl, RRF_t f1 (RRF_m (Md_t m2 (Md_f (by decide)))), Or.inl ⟨sk b 0, ?_, rfl, by rw [wr1_at, if_pos rfl]⟩⟩
    unfold rdT
    rw [if_neg c98]
end RR3
