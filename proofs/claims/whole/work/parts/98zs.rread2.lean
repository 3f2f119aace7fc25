section RR2
variable {N t L i : Nat} {s : mst} {A : AP} {b : Nat → Nat} {p0 p1 p2 p3 p4 : Int32}
/-- one more told of the TEXT -/
theorem r_told (ht : t < 7) (hA : DA A) (hq : q_nq A < 50) (hc : RPc s t A) (ho : RPo s t A) {k x y : Nat} (h1 : p1 = nI (x / 8)) (h2 : p2 = nI (x % 8)) (h3 : p3 = nI (if k = 0 then y / 8 else y)) (h4 : k = 0 → p4 = nI (y % 8)) : ∃ s', G_M_tell N s (nI t) (nI k) p1 p2 p3 p4 = some s' ∧ RRF t s s' ∧ s'.1 85 = s.1 85 ∧ RPc s' t (aO A k x y) ∧ RPo s' t (aO A k x y) := by
  have hns := hA.2.1
  have e93 : s.1 93 t = nI (q_nq A) := by rw [ho.1, hns, Nat.add_zero]
  have e := r_tell (N := N) (p1 := nI k) (p2 := p1) (p3 := p2) (p4 := p3) (p5 := p4) ht (show q_nq A < 60 by omega) e93
  have hq60 : q_nq A < 60 := by omega
  generalize hs' : wr1 (wr1 (wr1 (wr1 (wr1 (wr1 s 94 (60 * t + q_nq A) (nI k)) 95 (60 * t + q_nq A) p1) 96 (60 * t + q_nq A) p2) 97 (60 * t + q_nq A) p3) 98 (60 * t + q_nq A) p4) 93 t (nI (q_nq A + 1)) = s' at e
  have hR : RRF t s s' := by
    rw [← hs']
    exact RRF_t (RRF_t (RRF_t (RRF_t (RRF_t (RRF_w (by decide) rfl hq60) (RRF_w (by decide) rfl hq60)) (RRF_w (by decide) rfl hq60)) (RRF_w (by decide) rfl hq60)) (RRF_w (by decide) rfl hq60)) (RRF_1 (by decide) rfl)
  have oth : ∀ m, m < 93 ∨ 98 < m → s'.1 m = s.1 m := by
    intro m hm
    rw [← hs', wr1_ne (by omega), wr1_ne (by omega), wr1_ne (by omega), wr1_ne (by omega), wr1_ne (by omega), wr1_ne (by omega)]
  have g := aO_ag (A := A) (k := k) (x := x) (y := y)
  refine ⟨s', e, hR, oth 85 (by omega), ?_, ?_⟩
  · exact RPc_e (ag_RPc g (by decide) (by decide) (by decide) (by decide) (by decide) (by decide) hc) (fun m hm => oth m (by have hh : ∀ m, m ∈ [87, 88, 89, 90, 91, 92] → m < 93 := by decide
                                                                                                                             exact Or.inl (hh m hm)))
  · refine ⟨?_, ?_, fun j hj => ?_⟩
    · rw [← hs', wr1_at, if_pos rfl, aO_nq, ag_ns g (by decide), hns]
    · rw [oth 99 (by omega), ag_ns g (by decide)]; exact ho.2.1
    · rw [aO_nq, ag_ns g (by decide), hns] at hj
      have x94 : s'.1 94 (60 * t + j) = if 60 * t + j = 60 * t + q_nq A then nI k else s.1 94 (60 * t + j) := by
        rw [← hs', wr1_ne (by decide), wr1_ne (by decide), wr1_ne (by decide), wr1_ne (by decide), wr1_ne (by decide), wr1_at]
      have x95 : s'.1 95 (60 * t + j) = if 60 * t + j = 60 * t + q_nq A then p1 else s.1 95 (60 * t + j) := by
        rw [← hs', wr1_ne (by decide), wr1_ne (by decide), wr1_ne (by decide), wr1_ne (by decide), wr1_at, wr1_ne (by decide)]
      have x96 : s'.1 96 (60 * t + j) = if 60 * t + j = 60 * t + q_nq A then p2 else s.1 96 (60 * t + j) := by
        rw [← hs', wr1_ne (by decide), wr1_ne (by decide), wr1_ne (by decide), wr1_at, wr1_ne (by decide), wr1_ne (by decide)]
      have x97 : s'.1 97 (60 * t + j) = if 60 * t + j = 60 * t + q_nq A then p3 else s.1 97 (60 * t + j) := by
        rw [← hs', wr1_ne (by decide), wr1_ne (by decide), wr1_at, wr1_ne (by decide), wr1_ne (by decide), wr1_ne (by decide)]
      have x98 : s'.1 98 (60 * t + j) = if 60 * t + j = 60 * t + q_nq A then p4 else s.1 98 (60 * t + j) := by
        rw [← hs', wr1_ne (by decide), wr1_at, wr1_ne (by decide), wr1_ne (by decide), wr1_ne (by decide), wr1_ne (by decide)]
      rw [x94, x95, x96, x97, x98, aO_ok, aO_os, aO_ow]
      by_cases c : j = q_nq A
      · subst c
        rw [if_pos rfl, if_pos rfl, if_pos rfl, if_pos rfl, if_pos rfl, updN_s, updN_s, updN_s]
        exact ⟨rfl, h1, h2, h3, h4⟩
      · have hne : ¬ 60 * t + j = 60 * t + q_nq A := by omega
        rw [if_neg hne, if_neg hne, if_neg hne, if_neg hne, if_neg hne, updN_n c, updN_n c, updN_n c]
        exact ho.2.2 j (by omega)
def STR (b : Nat → Nat) (t L : Nat) (s s' : mst) (i : Nat) (w : Int32) (r : Nat ⊕ (AP × Nat)) : Prop := RRF t s s' ∧ ((∃ f, r = .inl f ∧ w = 0 ∧ s'.1 85 4 = nI f) ∨ ∃ A' j, r = .inr (A', j) ∧ w = 1 ∧ RST s' t A' j ∧ i + 6 ≤ j ∧ j ≤ L)
theorem r_readTold1 (hN : 1000 ≤ N) (ht : t < 7) (hA : DA A) (hq : q_nq A < 50) (hx : RTX s b L) (hi2 : i ≤ L) (hs : RST s t A i) : ∃ w s', G_M_readTold N s (nI t) 1 = some (w, s') ∧ STR b t L s s' i w (houA b A i) := by
  obtain ⟨h3, h4, hc, ho⟩ := hs
  have hWc := hA.1.1
  unfold WFc at hWc
  have hX := hA.1.2.1
  have hT := hx.1
  have nine : (9 : Int32) = nI 10 - 1 := by decide
  unfold G_M_readTold houA
  rw [rdA_nI (by omega) (by decide), Option.bind_some, hc.2.1]
  obtain ⟨f1, g1⟩ := r_numP (N := N) (p0 := 0) (p1 := nI (q_nc A) - 1) (p3 := nI t) (p4 := 0) hN hx hi2 h3 h4 (ok := fun v => v < q_nc A) (fun v hv => ok_lt (by omega) hv)
  cases e1 : nmR b i (fun v => v < q_nc A) with
  | inl f =>
    obtain ⟨s1, k1, k2, k3⟩ := f1 f e1
    rw [k1, Option.bind_some]
    dsimp only
    rw [if_pos rfl]
    exact ⟨0, s1, rfl, RRF_m k2, Or.inl ⟨f, rfl, rfl, k3⟩⟩
  | inr p =>
    obtain ⟨x, i1⟩ := p
    obtain ⟨s1, k1, k2, k3, k4, k5⟩ := g1 x i1 e1
    obtain ⟨o1, n1, _⟩ := nmR_ok e1
    have b1 := nmb_b hT hi2 n1
    have hx1 := RTX_md hx k2 (by decide) (by decide)
    have hc1 := md_RPc hc k2
    have hxx := hX x o1
    rw [k1, Option.bind_some]
    dsimp only
    rw [if_neg i10, k5, L_7, nI_mul, nI_add, rdA_nI (by omega) (by decide), Option.bind_some, (hc1.2.2 x o1).2.2.1]
    obtain ⟨f2, g2⟩ := r_numP (N := N) (p0 := 0) (p1 := nI (q_pr A x) - 1) (p3 := nI t) (p4 := 0) hN hx1 b1.2.2 k3 k4 (ok := fun v => v < q_pr A x) (fun v hv => ok_lt (by omega) hv)
    cases e2 : nmR b i1 (fun v => v < q_pr A x) with
    | inl f =>
      obtain ⟨s2, l1, l2, l3⟩ := f2 f e2
      rw [l1, Option.bind_some]
      dsimp only
      rw [if_pos rfl]
      exact ⟨0, s2, rfl, RRF_m (Md_t k2 l2), Or.inl ⟨f, rfl, rfl, l3⟩⟩
    | inr p =>
      obtain ⟨p, i2⟩ := p
      obtain ⟨s2, l1, l2, l3, l4, l5⟩ := g2 p i2 e2
      obtain ⟨o2, n2, _⟩ := nmR_ok e2
      have b2 := nmb_b hT b1.2.2 n2
      have hx2 := RTX_md hx1 l2 (by decide) (by decide)
      rw [l1, Option.bind_some]
      dsimp only
      rw [if_neg i10, if_pos rfl, nine]
      obtain ⟨f3, g3⟩ := r_numP (N := N) (p0 := 0) (p1 := nI 10 - 1) (p3 := nI t) (p4 := 0) hN hx2 b2.2.2 l3 l4 (ok := fun v => v < 10) (fun v hv => ok_lt (by omega) hv)
      cases e3 : nmR b i2 (fun v => v < 10) with
      | inl f =>
        obtain ⟨s3, m1, m2, m3⟩ := f3 f e3
        rw [m1, Option.bind_some]
        dsimp only
        rw [if_pos rfl]
        exact ⟨0, s3, rfl, RRF_m (Md_t k2 (Md_t l2 m2)), Or.inl ⟨f, rfl, rfl, m3⟩⟩
      | inr p =>
        obtain ⟨y, i3⟩ := p
        obtain ⟨s3, m1, m2, m3, m4, m5⟩ := g3 y i3 e3
        obtain ⟨o3, n3, _⟩ := nmR_ok e3
        have b3 := nmb_b hT b2.2.2 n3
        have mm : Md [] [3, 4, 5] s s3 := Md_t k2 (Md_t l2 m2)
        rw [m1, Option.bind_some]
        dsimp only
        rw [if_neg i10, l5, m5]
        have d1 : (8 * x + p) / 8 = x := by omega
        have d2 : (8 * x + p) % 8 = p := by omega
        obtain ⟨s4, q1, q2, q3, q4, q5⟩ := r_told (N := N) (p1 := nI x) (p2 := nI p) (p3 := nI y) (p4 := 0) (k := 1) (x := 8 * x + p) (y := y) ht hA hq (md_RPc hc mm) (md_RPo ho mm) (by rw [d1]) (by rw [d2]) (by rw [if_neg (by decide)]) (fun e => absurd e (by decide))
        have q1' : G_M_tell N s3 (nI t) 1 (nI x) (nI p) (nI y) 0 = some s4 := q1
        rw [q1', Option.bind_some]
        exact ⟨1, s4, rfl, RRF_t (RRF_m mm) q2, Or.inr ⟨_, i3, rfl, rfl, ⟨by rw [q3]; exact m3, by rw [q3]; exact m4, q4, q5⟩, by omega, b3.2.2⟩⟩
theorem r_readTold0 (hN : 1000 ≤ N) (ht : t < 7) (hA : DA A) (hq : q_nq A < 50) (hx : RTX s b L) (hi2 : i ≤ L) (hs : RST s t A i) : ∃ w s', G_M_readTold N s (nI t) 0 = some (w, s') ∧ STR b t L s s' i w (joiA b A i) := by
  obtain ⟨h3, h4, hc, ho⟩ := hs
  have hWc := hA.1.1
  unfold WFc at hWc
  have hX := hA.1.2.1
  have hT := hx.1
  unfold G_M_readTold joiA
  rw [rdA_nI (by omega) (by decide), Option.bind_some, hc.2.1]
  obtain ⟨f1, g1⟩ := r_numP (N := N) (p0 := 0) (p1 := nI (q_nc A) - 1) (p3 := nI t) (p4 := 0) hN hx hi2 h3 h4 (ok := fun v => v < q_nc A) (fun v hv => ok_lt (by omega) hv)
  cases e1 : nmR b i (fun v => v < q_nc A) with
  | inl f =>
    obtain ⟨s1, k1, k2, k3⟩ := f1 f e1
    rw [k1, Option.bind_some]
    dsimp only
    rw [if_pos rfl]
    exact ⟨0, s1, rfl, RRF_m k2, Or.inl ⟨f, rfl, rfl, k3⟩⟩
  | inr p =>
    obtain ⟨x, i1⟩ := p
    obtain ⟨s1, k1, k2, k3, k4, k5⟩ := g1 x i1 e1
    obtain ⟨o1, n1, _⟩ := nmR_ok e1
    have b1 := nmb_b hT hi2 n1
    have hx1 := RTX_md hx k2 (by decide) (by decide)
    have hc1 := md_RPc hc k2
    have hxx := hX x o1
    rw [k1, Option.bind_some]
    dsimp only
    rw [if_neg i10, k5, L_7, nI_mul, nI_add, rdA_nI (by omega) (by decide), Option.bind_some, (hc1.2.2 x o1).2.2.1]
    obtain ⟨f2, g2⟩ := r_numP (N := N) (p0 := 0) (p1 := nI (q_pr A x) - 1) (p3 := nI t) (p4 := 0) hN hx1 b1.2.2 k3 k4 (ok := fun v => v < q_pr A x) (fun v hv => ok_lt (by omega) hv)
    cases e2 : nmR b i1 (fun v => v < q_pr A x) with
    | inl f =>
      obtain ⟨s2, l1, l2, l3⟩ := f2 f e2
      rw [l1, Option.bind_some]
      dsimp only
      rw [if_pos rfl]
      exact ⟨0, s2, rfl, RRF_m (Md_t k2 l2), Or.inl ⟨f, rfl, rfl, l3⟩⟩
    | inr p =>
      obtain ⟨p, i2⟩ := p
      obtain ⟨s2, l1, l2, l3, l4, l5⟩ := g2 p i2 e2
      obtain ⟨o2, n2, _⟩ := nmR_ok e2
      have b2 := nmb_b hT b1.2.2 n2
      have hx2 := RTX_md hx1 l2 (by decide) (by decide)
      have hc2 := md_RPc hc1 l2
      rw [l1, Option.bind_some]
      dsimp only
      rw [if_neg i10, if_neg (by decide), rdA_nI (by omega) (by decide), Option.bind_some, hc2.2.1]
      obtain ⟨f3, g3⟩ := r_num (N := N) (p0 := 0) (p1 := nI (q_nc A) - 1) (p2 := 2) (p3 := nI t) (p4 := nI x) hN hx2 b2.2.2 l3 l4 (ok := fun v => v < q_nc A ∧ q_fr A v = q_tb A x) (by
        intro s' v hv m h5
        have hc' := md_RPc hc2 m
        have hz := ok_lt (n := q_nc A) (v := v) (by omega) hv
        unfold G_M_number_96 G_M_number_127
        rw [r_isIn, Option.bind_some, h5]
        dsimp only
        by_cases c2 : v < q_nc A
        · have hvv := hX v c2
          rw [if_neg (nI_pos (by omega)), if_neg (fun y => absurd ((nI_m1_lt (by omega)).mp y) (nI_ge c2 (by omega))), if_neg i10, if_neg (by decide), if_pos rfl, L_7, nI_mul, nI_add, nI_add, rdA_nI (by omega) (by decide), Option.bind_some, rdA_nI (by omega) (by decide), Option.bind_some, (hc'.2.2 v c2).1, (hc'.2.2 x o1).2.1]
          by_cases c3 : q_fr A v = q_tb A x
          · left
            refine ⟨⟨c2, c3⟩, ?_⟩
            rw [if_pos (by rw [c3])]
          · right
            refine ⟨fun y => c3 y.2, ?_⟩
            rw [if_neg (fun y => c3 ((nI_eq (by omega) (by omega)).mp y))]
        · right
          refine ⟨fun y => c2 y.1, ?_⟩
          rw [if_neg (nI_pos (by omega)), if_pos ((nI_m1_lt (by omega)).mpr (nI_le (by omega) (by omega))), if_pos rfl])
      cases e3 : nmR b i2 (fun v => v < q_nc A ∧ q_fr A v = q_tb A x) with
      | inl f =>
        obtain ⟨s3, m1, m2, m3⟩ := f3 f e3
        rw [m1, Option.bind_some]
        dsimp only
        rw [if_pos rfl]
        exact ⟨0, s3, rfl, RRF_m (Md_t k2 (Md_t l2 m2)), Or.inl ⟨f, rfl, rfl, m3⟩⟩
      | inr p =>
        obtain ⟨y, i3⟩ := p
        obtain ⟨s3, m1, m2, m3, m4, m5⟩ := g3 y i3 e3
        obtain ⟨o3, n3, _⟩ := nmR_ok e3
        have b3 := nmb_b hT b2.2.2 n3
        have hx3 := RTX_md hx2 m2 (by decide) (by decide)
        have hc3 := md_RPc hc2 m2
        have hyy := hX y o3.1
        rw [m1, Option.bind_some]
        dsimp only
        rw [if_neg i10, m5, nI_add, rdA_nI (by omega) (by decide), Option.bind_some, (hc3.2.2 y o3.1).2.2.1]
        obtain ⟨f4, g4⟩ := r_numP (N := N) (p0 := 0) (p1 := nI (q_pr A y) - 1) (p3 := nI t) (p4 := 0) hN hx3 b3.2.2 m3 m4 (ok := fun v => v < q_pr A y) (fun v hv => ok_lt (by omega) hv)
        cases e4 : nmR b i3 (fun v => v < q_pr A y) with
        | inl f =>
          obtain ⟨s4, q1, q2, q3⟩ := f4 f e4
          rw [q1, Option.bind_some]
          dsimp only
          rw [if_pos rfl]
          exact ⟨0, s4, rfl, RRF_m (Md_t k2 (Md_t l2 (Md_t m2 q2))), Or.inl ⟨f, rfl, rfl, q3⟩⟩
        | inr p =>
          obtain ⟨q, i4⟩ := p
          obtain ⟨s4, q1, q2, q3, q4, q5⟩ := g4 q i4 e4
          obtain ⟨o4, n4, _⟩ := nmR_ok e4
          have b4 := nmb_b hT b3.2.2 n4
          have mm : Md [] [3, 4, 5] s s4 := Md_t k2 (Md_t l2 (Md_t m2 q2))
          rw [q1, Option.bind_some]
          dsimp only
          rw [if_neg i10, l5, q5]
          have d1 : (8 * x + p) / 8 = x := by omega
          have d2 : (8 * x + p) % 8 = p := by omega
          have d3 : (8 * y + q) / 8 = y := by omega
          have d4 : (8 * y + q) % 8 = q := by omega
          obtain ⟨s5, u1, u2, u3, u4, u5⟩ := r_told (N := N) (p1 := nI x) (p2 := nI p) (p3 := nI y) (p4 := nI q) (k := 0) (x := 8 * x + p) (y := 8 * y + q) ht hA hq (md_RPc hc mm) (md_RPo ho mm) (by rw [d1]) (by rw [d2]) (by rw [if_pos rfl, d3]) (fun _ => by rw [d4])
          have u1' : G_M_tell N s4 (nI t) 0 (nI x) (nI p) (nI y) (nI q) = some s5 := u1
          rw [u1', Option.bind_some]
          exact ⟨1, s5, rfl, RRF_t (RRF_m mm) u2, Or.inr ⟨_, i4, rfl, rfl, ⟨by rw [u3]; exact q3, by rw [u3]; exact q4, u4, u5⟩, by omega, b4.2.2⟩⟩
end RR2
