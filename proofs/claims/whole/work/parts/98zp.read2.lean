section DAS
variable {b : Nat → Nat} {A A' : AP} {i j v f : Nat} {ok : Nat → Prop}
theorem nmR_ok (h : nmR b i ok = .inr (v, j)) : ok v ∧ nmb b i = .inr (v, j) ∧ ¬ dg (b j) := by
  rcases nmR_cases b i ok with ⟨f, e1, e2⟩ | ⟨v', j', e1, ⟨o, e2⟩ | ⟨o, d, e2, e3⟩ | ⟨o, d, e2⟩⟩
  · rw [e2] at h; cases h
  · rw [e2] at h; cases h
  · rw [e2] at h; cases h
  · rw [e2] at h
    cases h
    exact ⟨o, e1, d⟩
theorem m48_ok {k l : Nat} (h : m48 b i = .inr (k, l, j)) : (1 ≤ k ∧ k ≤ 6) ∧ 1 ≤ l ∧ l ≤ 99 := by
  unfold m48 at h
  cases e1 : nmR b i (fun v => 1 ≤ v ∧ v ≤ 6) with
  | inl f => rw [e1] at h; cases h
  | inr p =>
    obtain ⟨k', i3⟩ := p
    rw [e1] at h
    dsimp only at h
    cases e2 : nmR b i3 (fun v => 1 ≤ v ∧ v ≤ 99) with
    | inl f => rw [e2] at h; cases h
    | inr p =>
      obtain ⟨l', i4⟩ := p
      rw [e2] at h
      cases h
      exact ⟨(nmR_ok e1).1, (nmR_ok e2).1⟩
theorem cabA_DA (hA : DA A) (h : cabA b A i = .inr (A', j)) : DA A' ∧ q_nq A' = q_nq A := by
  unfold cabA at h
  cases e1 : nmR b i (fun v => v < q_nb A) with
  | inl f => rw [e1] at h; cases h
  | inr p =>
    obtain ⟨a, i1⟩ := p
    rw [e1] at h
    dsimp only at h
    cases e2 : nmR b i1 (fun v => a < v ∧ v < q_nb A ∧ q_pc A v = 0) with
    | inl f => rw [e2] at h; cases h
    | inr p =>
      obtain ⟨c, i2⟩ := p
      rw [e2] at h
      dsimp only at h
      cases e3 : m48 b i2 with
      | inl f => rw [e3] at h; cases h
      | inr p =>
        obtain ⟨k, l, i4⟩ := p
        rw [e3] at h
        cases h
        obtain ⟨o1, o2, o3⟩ := (nmR_ok e2).1
        obtain ⟨m1, m2⟩ := m48_ok e3
        exact ⟨aC_DA hA o1 o2 o3 m1 m2, ag_nq aC_ag (by decide)⟩
theorem joiA_DA (hA : DA A) (hq : q_nq A < 50) (h : joiA b A i = .inr (A', j)) : DA A' ∧ q_nq A' = q_nq A + 1 := by
  have hX := hA.1.2.1
  unfold joiA at h
  cases e1 : nmR b i (fun v => v < q_nc A) with
  | inl f => rw [e1] at h; cases h
  | inr p =>
    obtain ⟨x, i1⟩ := p
    rw [e1] at h
    dsimp only at h
    cases e2 : nmR b i1 (fun v => v < q_pr A x) with
    | inl f => rw [e2] at h; cases h
    | inr p =>
      obtain ⟨p, i2⟩ := p
      rw [e2] at h
      dsimp only at h
      cases e3 : nmR b i2 (fun v => v < q_nc A ∧ q_fr A v = q_tb A x) with
      | inl f => rw [e3] at h; cases h
      | inr p =>
        obtain ⟨y, i3⟩ := p
        rw [e3] at h
        dsimp only at h
        cases e4 : nmR b i3 (fun v => v < q_pr A y) with
        | inl f => rw [e4] at h; cases h
        | inr p =>
          obtain ⟨q, i4⟩ := p
          rw [e4] at h
          cases h
          have x1 := (nmR_ok e1).1
          have p1 := (nmR_ok e2).1
          obtain ⟨y1, hm⟩ := (nmR_ok e3).1
          have q1 := (nmR_ok e4).1
          have hxx := hX x x1
          have hyy := hX y y1
          have d1 : (8 * x + p) / 8 = x := by omega
          have d2 : (8 * x + p) % 8 = p := by omega
          have d3 : (8 * y + q) / 8 = y := by omega
          have d4 : (8 * y + q) % 8 = q := by omega
          exact ⟨aO_DA hA hq (by omega) (by unfold q_st; rw [d1, d2]; exact ⟨x1, p1⟩) (fun _ => ⟨by unfold q_st; rw [d3, d4]; exact ⟨y1, q1⟩, by rw [d1, d3]; exact hm⟩) (fun e => by omega), aO_nq⟩
theorem houA_DA (hA : DA A) (hq : q_nq A < 50) (h : houA b A i = .inr (A', j)) : DA A' ∧ q_nq A' = q_nq A + 1 := by
  have hX := hA.1.2.1
  unfold houA at h
  cases e1 : nmR b i (fun v => v < q_nc A) with
  | inl f => rw [e1] at h; cases h
  | inr p =>
    obtain ⟨x, i1⟩ := p
    rw [e1] at h
    dsimp only at h
    cases e2 : nmR b i1 (fun v => v < q_pr A x) with
    | inl f => rw [e2] at h; cases h
    | inr p =>
      obtain ⟨p, i2⟩ := p
      rw [e2] at h
      dsimp only at h
      cases e3 : nmR b i2 (fun v => v < 10) with
      | inl f => rw [e3] at h; cases h
      | inr p =>
        obtain ⟨y, i3⟩ := p
        rw [e3] at h
        cases h
        have x1 := (nmR_ok e1).1
        have p1 := (nmR_ok e2).1
        have y1 := (nmR_ok e3).1
        have hxx := hX x x1
        have d1 : (8 * x + p) / 8 = x := by omega
        have d2 : (8 * x + p) % 8 = p := by omega
        exact ⟨aO_DA hA hq (by omega) (by unfold q_st; rw [d1, d2]; exact ⟨x1, p1⟩) (fun e => by omega) (fun _ => y1), aO_nq⟩
theorem sttA_DA (hA : DA A) (hq : q_nq A < 50) (h : sttA b A i = .inr (A', j)) : DA A' ∧ q_nq A' ≤ q_nq A + 1 := by
  unfold sttA at h
  by_cases c1 : b (sk b (i + 1)) = 100
  · rw [if_pos c1] at h
    have := cabA_DA hA h
    exact ⟨this.1, by omega⟩
  · rw [if_neg c1] at h
    by_cases c2 : b (sk b (i + 1)) = 107
    · rw [if_pos c2] at h
      have := joiA_DA hA hq h
      exact ⟨this.1, by omega⟩
    · rw [if_neg c2] at h
      by_cases c3 : b (sk b (i + 1)) = 105
      · rw [if_pos c3] at h
        have := houA_DA hA hq h
        exact ⟨this.1, by omega⟩
      · rw [if_neg c3] at h
        cases h
theorem aB_DA (h : 2 ≤ v ∧ v ≤ 8) : DA (aB v) := by
  have z : ∀ f k, ¬ (f = 0 ∧ k = 0) → aB v f k = 0 := fun f k c => if_neg c
  have n0 : q_nb (aB v) = v := show (if 0 = 0 ∧ 0 = 0 then v else 0) = v from if_pos ⟨rfl, rfl⟩
  have n1 : q_nc (aB v) = 0 := z 0 1 (by decide)
  have n2 : q_nq (aB v) = 0 := z 0 2 (by decide)
  have n3 : q_ns (aB v) = 0 := z 0 3 (by decide)
  have n4 : q_nt (aB v) = 0 := z 0 4 (by decide)
  have n5 : q_ne (aB v) = 0 := z 0 5 (by decide)
  have n6 : q_nr (aB v) = 0 := z 0 6 (by decide)
  have w : ∀ h, q_wt (aB v) h = 0 := fun h => z 21 h (by omega)
  refine ⟨⟨?_, fun x hx => by omega, fun x y hx => by omega, fun k hk => by omega, fun k hk => by omega, fun k hk => by omega, fun k hk => by omega, fun h _ => by rw [w]; omega⟩, n3, n4, n5, n6, w, by omega⟩
  unfold WFc
  omega
end DAS
section RDL
variable {h0 : Nat → pm_C} {B : Nat} {D : Nat → pd} {hi z : Nat} {s : mst} {N P L i n : Nat} {A : AP} {b : Nat → Nat}
theorem c_loop (hN : 1000 ≤ N) (hf : FX D hi) (hp : PL D hi P) (hP : P = 58 ∨ 130 ≤ P) (hPb : P + 30 < 2 ^ 31) : ∀ k A i s t g, DA A → CTX s b L → OKS s P A i → i ≤ L → 8 * q_nq A ≤ i → 8 * t ≤ i → L < i + k → L + 3 < i + g → ∃ r s', F_Reader_readInto_27 N (B + 3) (B + P) g (nI t) (mkM h0 B D hi z s) = some (r, (mkM h0 B D hi z (s'))) ∧ FR P s s' ∧ ((∃ f, rdF b k A i = .inl f ∧ f ≤ L ∧ r = nI f) ∨ ∃ A', rdF b k A i = .inr A' ∧ r = -1 ∧ DA A' ∧ SET s' P A') := by
  intro k
  induction k with
  | zero => intro A i s t g _ _ _ h1 _ _ h2; omega
  | succ k ih =>
    intro A i s t g hA hx hs hi2 hq8 ht8 hk hg
    obtain ⟨hw, ha, hc, hl⟩ := id hs
    have hT := hx.1
    have hL := hT.1
    have hle := sk_le hT hi2
    have hge := sk_ge (i := i) hT
    have hWc := hA.1.1
    unfold WFc at hWc
    have hd : (∃ c, c ≤ 7 ∧ s.1 (P + 1) 2 = nI c) := ⟨q_nc A, by omega, hc.2.1⟩
    obtain ⟨g, rfl⟩ : ∃ g', g = g' + 1 + 1 + 1 := ⟨g - 3, by omega⟩
    have hm := c_more (N := N) (h0 := h0) (B := B) (z := z) hN hf hx hi2 ha
    generalize hsm : atS s (sk b i) = sm at hm
    have hxm : CTX sm b L := by rw [← hsm]; exact atS_c hx
    have hsO : OKS sm P A (sk b i) := by
      rw [← hsm]
      refine ⟨by rw [atS_j (by decide)]; exact hw, atS_2, atS_CPc hc (by omega), ?_⟩
      unfold CL at hl ⊢
      rw [atS_k (by omega), atS_k (by omega), atS_k (by omega), atS_k (by omega)]
      exact hl
    have hFm : FR P s sm := by rw [← hsm]; exact FR_a (by omega) hd hc.2.2.1
    have pre : F_Reader_readInto_27 N (B + 3) (B + P) (g + 1 + 1 + 1) (nI t) (mkM h0 B D hi z s) = if (if L ≤ sk b i then (0 : Int32) else 1) = 0 then F_Reader_readInto_60 N (B + 3) (B + P) (mkM h0 B D hi z (sm)) else (F_Reader_readStatement N (mkM h0 B D hi z (sm)) (B + 3) (B + P)).bind fun S17 => F_Reader_readInto_27 N (B + 3) (B + P) (g + 1 + 1) (nI (t + 1)) S17 := by
      show B_Reader_readInto_27 N (F_Reader_readInto_27 N (B + 3) (B + P) (g + 1 + 1)) (B + 3) (B + P) (nI t) (mkM h0 B D hi z s) = _
      unfold B_Reader_readInto_27
      rw [L_300, if_neg (nI_ge (by omega) (by decide)), rdm_3_2 hf, Option.bind_some, if_pos hw, hm, Option.bind_some]
      dsimp only
      rw [nI_1]
    by_cases cL : L ≤ sk b i
    · -- the end
      have hb0 : b (sk b i) = 0 := (hT.2.2 _).mpr cL
      obtain ⟨s2, e2, m2, t2⟩ := c_settle (N := N) (h0 := h0) (B := B) (z := z) hN hp hP hA hsO.2.2.1 hsO.2.2.2
      have k3 : s2.1 3 = sm.1 3 := m2.1 3 (by omega)
      refine ⟨-1, s2, ?_, FR_t hFm ⟨fun k k1 k2 => m2.1 k (by omega), by rw [k3], ⟨q_nc A, by omega, t2.1.2.1⟩, t2.1.2.2.1⟩, Or.inr ⟨A, ?_, rfl, hA, t2⟩⟩
      · rw [pre, if_pos cL, if_pos rfl]
        unfold F_Reader_readInto_60 F_Reader_readInto_72
        rw [rdm_3_2 hf, Option.bind_some, if_pos hsO.1, e2, Option.bind_some, rdm_3_2 hf, Option.bind_some, k3, hsO.1]
      · simp only [rdF]
        rw [if_neg (by omega), if_pos hb0]
    · have hbn : b (sk b i) ≠ 0 := fun e => cL ((hT.2.2 _).mp e)
      rw [if_neg cL, if_neg i10] at pre
      by_cases c60 : b (sk b i) = 60
      · obtain ⟨s2, e2, f2, r2⟩ := c_stm (N := N) (h0 := h0) (B := B) (z := z) hN hf hp hP hA (by omega) hxm (by omega) hsO c60
        have hx2 := CTX_fr hxm f2 hP
        rw [e2, Option.bind_some] at pre
        rcases r2 with ⟨f, u1, u2, u3⟩ | ⟨A', j, u1, u2, u3, u4⟩
        · have er : rdF b (k + 1) A i = .inl f := by
            simp only [rdF]
            rw [if_pos c60, u1]
          rcases u3 with u3 | ⟨u3, u4, u5⟩
          · exact ⟨nI f, s2, by rw [pre, c_loopW hf u3 (by omega)], FR_t hFm f2, Or.inl ⟨f, er, u2, rfl⟩⟩
          · obtain ⟨s3, e3, k3, k31⟩ := c_loopP (N := N) (h0 := h0) (B := B) (z := z) (g := g) (t := t + 1) (P := P) hN hf hx2 u3 u4 u2 u5 (by omega)
            exact ⟨nI f, s3, by rw [pre, e3], FR_t (FR_t hFm f2) ⟨fun k k1 _ => k3 k k1, k31, by rw [k3 _ (by omega)]; exact f2.2.2.1, by rw [k3 _ (by omega)]; exact f2.2.2.2⟩, Or.inl ⟨f, er, u2, rfl⟩⟩
        · obtain ⟨hA', hq'⟩ := sttA_DA hA (by omega) u1
          obtain ⟨r, s3, e3, f3, q3⟩ := ih A' j s2 (t + 1) (g + 1 + 1) hA' hx2 u2 u4 (by omega) (by omega) (by omega) (by omega)
          refine ⟨r, s3, by rw [pre, e3], FR_t hFm (FR_t f2 f3), ?_⟩
          have er : rdF b (k + 1) A i = rdF b k A' j := by
            simp only [rdF]
            rw [if_pos c60, u1]
          rw [er]
          exact q3
      · -- no ; there
        generalize hsw : wr1 sm 3 2 (nI (sk b i)) = sw
        have e1 := c_noSemi (N := N) (h0 := h0) (B := B) (z := z) (P := P) hf hxm hle hsO.2.1 hsO.1 c60
        rw [hsw] at e1
        have w3 : sw.1 3 2 = nI (sk b i) := by rw [← hsw, wr1_at, if_pos rfl]
        have wk : ∀ k, k ≠ 3 → sw.1 k = sm.1 k := fun k hk => by rw [← hsw, wr1_ne hk]
        have w1 : sw.1 3 0 = sm.1 3 0 := by rw [← hsw, wr1_at, if_neg (by decide)]
        rw [e1, Option.bind_some] at pre
        refine ⟨nI (sk b i), sw, by rw [pre, c_loopW hf w3 (by omega)], FR_t hFm ⟨fun k k1 _ => wk k k1, w1, ?_, ?_⟩, Or.inl ⟨sk b i, ?_, hle, rfl⟩⟩
        · rw [wk _ (by omega)]; exact hFm.2.2.1
        · rw [wk _ (by omega)]; exact hFm.2.2.2
        · simp only [rdF]
          rw [if_neg c60, if_neg hbn]
end RDL
