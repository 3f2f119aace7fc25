/-! ===== the reference reads a TEXT ===== -/
def rdK : List Nat := [87, 88, 89, 90, 91, 92, 93, 94, 95, 96, 97, 98, 99]
def RRF (t : Nat) (s s' : mst) : Prop := Md rdK [3, 4, 5] s s' ∧ OTH t s s'
def RST (s : mst) (t : Nat) (A : AP) (i : Nat) : Prop := s.1 85 3 = nI i ∧ s.1 85 4 = -1 ∧ RPc s t A ∧ RPo s t A
section RRD
variable {N t L i : Nat} {s : mst} {A : AP} {b : Nat → Nat} {p0 p1 p2 p3 p4 : Int32}
theorem RRF_r : RRF t s s := ⟨Md_r, OTH_r⟩
theorem RRF_t {s' s'' : mst} (h : RRF t s s') (h' : RRF t s' s'') : RRF t s s'' := ⟨Md_t h.1 h'.1, OTH_t h.2 h'.2⟩
theorem RRF_m {s' : mst} (h : Md [] [3, 4, 5] s s') : RRF t s s' := by
  refine ⟨Md_m h (by decide) (by decide), OTH_e (fun k hk => ?_)⟩
  have hp1 : ∀ k, k ∈ pers → k ≠ 85 := by decide
  exact h.1 k (by simp) (hp1 k hk)
theorem RRF_w {k v c : Nat} {x : Int32} (hk : k ∈ rdK) (hb : bz k = c) (hv : v < c) : RRF t s (wr1 s k (c * t + v) x) := by
  have h85 : ∀ k, k ∈ rdK → k ≠ 85 := by decide
  exact ⟨Md_w hk (h85 k hk), OTH_k hb hv⟩
theorem RRF_1 {k : Nat} {x : Int32} (hk : k ∈ rdK) (hb : bz k = 1) : RRF t s (wr1 s k t x) := by
  have h85 : ∀ k, k ∈ rdK → k ≠ 85 := by decide
  exact ⟨Md_w hk (h85 k hk), OTH_1 hb⟩
theorem RTX_rf {s' : mst} (h : RTX s b L) (hm : RRF t s s') : RTX s' b L := RTX_md h hm.1 (by decide) (by decide)
theorem md_RPc {s' : mst} (h : RPc s t A) (hm : Md [] [3, 4, 5] s s') : RPc s' t A := RPc_e h (fun k hk => hm.1 k (by simp) (by intro e; subst e; revert hk; decide))
theorem md_RPo {s' : mst} (h : RPo s t A) (hm : Md [] [3, 4, 5] s s') : RPo s' t A := RPo_e h (fun k hk => hm.1 k (by simp) (by intro e; subst e; revert hk; decide))
/-- what is asked of a number -/
theorem h96_0 {v : Nat} (h5 : s.1 85 5 = nI v) : (¬ (nI v < p0 ∨ p1 < nI v) ∧ G_M_number_96 N p0 p1 0 p3 p4 s = G_M_number_174 N s) ∨ ((nI v < p0 ∨ p1 < nI v) ∧ G_M_number_96 N p0 p1 0 p3 p4 s = G_M_number_163 N s) := by
  unfold G_M_number_96 G_M_number_127
  rw [r_isIn, Option.bind_some, h5]
  dsimp only
  by_cases c1 : nI v < p0
  · right
    refine ⟨Or.inl c1, ?_⟩
    rw [if_pos c1, if_pos rfl]
  · by_cases c2 : p1 < nI v
    · right
      refine ⟨Or.inr c2, ?_⟩
      rw [if_neg c1, if_pos c2, if_pos rfl]
    · left
      refine ⟨fun y => by rcases y with y | y; exact c1 y; exact c2 y, ?_⟩
      rw [if_neg c1, if_neg c2, if_neg i10, if_neg (by decide), if_neg (by decide)]
/-- a number within a .. n - 1 -/
theorem r_numP (hN : 1000 ≤ N) (h : RTX s b L) (hi : i ≤ L) (h3 : s.1 85 3 = nI i) (h4 : s.1 85 4 = -1) {ok : Nat → Prop} (hok : ∀ v, v < 100 → (ok v ↔ ¬ (nI v < p0 ∨ p1 < nI v))) : (∀ f, nmR b i ok = .inl f → ∃ s', G_M_number N s p0 p1 0 p3 p4 = some (0, s') ∧ Md [] [3, 4, 5] s s' ∧ s'.1 85 4 = nI f) ∧ (∀ v j, nmR b i ok = .inr (v, j) → ∃ s', G_M_number N s p0 p1 0 p3 p4 = some (1, s') ∧ Md [] [3, 4, 5] s s' ∧ s'.1 85 3 = nI j ∧ s'.1 85 4 = -1 ∧ s'.1 85 5 = nI v) := by
  refine r_num hN h hi h3 h4 (fun s' v hv m h5 => ?_)
  rcases h96_0 (N := N) (p0 := p0) (p1 := p1) (p3 := p3) (p4 := p4) h5 with ⟨o, e⟩ | ⟨o, e⟩
  · exact Or.inl ⟨(hok v hv).mpr o, e⟩
  · exact Or.inr ⟨fun y => (hok v hv).mp y o, e⟩
theorem ok_lt {n v : Nat} (hn : n < 1000) (hv : v < 100) : v < n ↔ ¬ (nI v < 0 ∨ nI n - 1 < nI v) := by
  have z : ¬ nI v < 0 := nI_pos (by omega)
  constructor
  · intro h y
    rcases y with y | y
    · exact z y
    · exact absurd ((nI_m1_lt (by omega)).mp y) (nI_ge h (by omega))
  · intro h
    by_cases c : v < n
    · exact c
    · exact absurd (Or.inr ((nI_m1_lt (by omega)).mpr (nI_le (by omega) (by omega)))) h
theorem ok_in {a c v : Nat} (ha : a < 1000) (hc : c < 1000) (hv : v < 100) : (a ≤ v ∧ v ≤ c) ↔ ¬ (nI v < nI a ∨ nI c < nI v) := by
  rw [nI_ltI (by omega) (by omega), nI_ltI (by omega) (by omega)]
  omega
theorem r_readCable (hN : 1000 ≤ N) (ht : t < 7) (hA : DA A) (hx : RTX s b L) (hi2 : i ≤ L) (hs : RST s t A i) : ∃ w s', G_M_readCable N s (nI t) = some (w, s') ∧ RRF t s s' ∧ ((∃ f, cabA b A i = .inl f ∧ w = 0 ∧ s'.1 85 4 = nI f) ∨ ∃ A' j, cabA b A i = .inr (A', j) ∧ w = 1 ∧ RST s' t A' j ∧ i + 6 ≤ j ∧ j ≤ L) := by
  obtain ⟨h3, h4, hc, ho⟩ := hs
  have hWc := hA.1.1
  unfold WFc at hWc
  have hT := hx.1
  unfold G_M_readCable cabA
  rw [rdA_nI (by omega) (by decide), Option.bind_some, hc.1]
  obtain ⟨f1, g1⟩ := r_numP (N := N) (p0 := 0) (p1 := nI (q_nb A) - 1) (p3 := nI t) (p4 := 0) hN hx hi2 h3 h4 (ok := fun v => v < q_nb A) (fun v hv => ok_lt (by omega) hv)
  cases e1 : nmR b i (fun v => v < q_nb A) with
  | inl f =>
    obtain ⟨s1, k1, k2, k3⟩ := f1 f e1
    rw [k1, Option.bind_some]
    dsimp only
    rw [if_pos rfl]
    exact ⟨0, s1, rfl, RRF_m k2, Or.inl ⟨f, rfl, rfl, k3⟩⟩
  | inr p =>
    obtain ⟨a, i1⟩ := p
    obtain ⟨s1, k1, k2, k3, k4, k5⟩ := g1 a i1 e1
    obtain ⟨o1, n1, _⟩ := nmR_ok e1
    have b1 := nmb_b hT hi2 n1
    have hx1 := RTX_md hx k2 (by decide) (by decide)
    have hc1 := md_RPc hc k2
    rw [k1, Option.bind_some]
    dsimp only
    rw [if_neg i10, rdA_nI (by omega) (by decide), Option.bind_some, hc1.1, k5, nI_1]
    obtain ⟨f2, g2⟩ := r_num (N := N) (p0 := nI (a + 1)) (p1 := nI (q_nb A) - 1) (p2 := 1) (p3 := nI t) (p4 := 0) hN hx1 b1.2.2 k3 k4 (ok := fun v => a < v ∧ v < q_nb A ∧ q_pc A v = 0) (by
      intro s' v hv m h5
      have hc' := md_RPc hc1 m
      have hct := r_comesTo (N := N) (by omega) ht hA.1.1 hA.1.2.1 hc' hv
      have hpl : q_pc A v ≤ q_nc A := q_ff_lt _
      unfold G_M_number_96 G_M_number_127
      rw [r_isIn, Option.bind_some, h5]
      dsimp only
      by_cases c1 : v < a + 1
      · right
        refine ⟨fun y => by omega, ?_⟩
        rw [if_pos (nI_lt c1 (by omega)), if_pos rfl]
      · rw [if_neg (nI_nlt (by omega) (by omega))]
        by_cases c2 : v < q_nb A
        · rw [if_neg (fun y => absurd ((nI_m1_lt (by omega)).mp y) (nI_ge c2 (by omega))), if_neg i10, if_pos rfl, hct, Option.bind_some]
          dsimp only
          by_cases c3 : q_pc A v = 0
          · left
            refine ⟨⟨by omega, c2, c3⟩, ?_⟩
            rw [if_pos (show cd (q_ff (q_tb A) v (q_nc A)) = -1 from (cd_n1 (by show q_pc A v < 2 ^ 31; omega)).mpr c3), if_neg (by decide)]
          · right
            refine ⟨fun y => c3 y.2.2, ?_⟩
            rw [if_neg (show ¬ cd (q_ff (q_tb A) v (q_nc A)) = -1 from fun y => c3 ((cd_n1 (by show q_pc A v < 2 ^ 31; omega)).mp y))]
        · right
          refine ⟨fun y => c2 y.2.1, ?_⟩
          rw [if_pos ((nI_m1_lt (by omega)).mpr (nI_le (by omega) (by omega))), if_pos rfl])
    cases e2 : nmR b i1 (fun v => a < v ∧ v < q_nb A ∧ q_pc A v = 0) with
    | inl f =>
      obtain ⟨s2, l1, l2, l3⟩ := f2 f e2
      rw [l1, Option.bind_some]
      dsimp only
      rw [if_pos rfl]
      exact ⟨0, s2, rfl, RRF_m (Md_t k2 l2), Or.inl ⟨f, rfl, rfl, l3⟩⟩
    | inr p =>
      obtain ⟨c, i2⟩ := p
      obtain ⟨s2, l1, l2, l3, l4, l5⟩ := g2 c i2 e2
      obtain ⟨o2, n2, _⟩ := nmR_ok e2
      have b2 := nmb_b hT b1.2.2 n2
      have hx2 := RTX_md hx1 l2 (by decide) (by decide)
      rw [l1, Option.bind_some]
      dsimp only
      rw [if_neg i10]
      unfold m48
      obtain ⟨f3, g3⟩ := r_numP (N := N) (p0 := 1) (p1 := 6) (p3 := nI t) (p4 := 0) hN hx2 b2.2.2 l3 l4 (ok := fun v => 1 ≤ v ∧ v ≤ 6) (fun v hv => ok_in (a := 1) (c := 6) (by omega) (by omega) hv)
      cases e3 : nmR b i2 (fun v => 1 ≤ v ∧ v ≤ 6) with
      | inl f =>
        obtain ⟨s3, m1, m2, m3⟩ := f3 f e3
        rw [m1, Option.bind_some]
        dsimp only
        rw [if_pos rfl]
        exact ⟨0, s3, rfl, RRF_m (Md_t k2 (Md_t l2 m2)), Or.inl ⟨f, rfl, rfl, m3⟩⟩
      | inr p =>
        obtain ⟨k, i3⟩ := p
        obtain ⟨s3, m1, m2, m3, m4, m5⟩ := g3 k i3 e3
        obtain ⟨o3, n3, _⟩ := nmR_ok e3
        have b3 := nmb_b hT b2.2.2 n3
        have hx3 := RTX_md hx2 m2 (by decide) (by decide)
        rw [m1, Option.bind_some]
        dsimp only
        rw [if_neg i10]
        obtain ⟨f4, g4⟩ := r_numP (N := N) (p0 := 1) (p1 := 99) (p3 := nI t) (p4 := 0) hN hx3 b3.2.2 m3 m4 (ok := fun v => 1 ≤ v ∧ v ≤ 99) (fun v hv => ok_in (a := 1) (c := 99) (by omega) (by omega) hv)
        cases e4 : nmR b i3 (fun v => 1 ≤ v ∧ v ≤ 99) with
        | inl f =>
          obtain ⟨s4, q1, q2, q3⟩ := f4 f e4
          rw [q1, Option.bind_some]
          dsimp only
          rw [if_pos rfl]
          exact ⟨0, s4, rfl, RRF_m (Md_t k2 (Md_t l2 (Md_t m2 q2))), Or.inl ⟨f, rfl, rfl, q3⟩⟩
        | inr p =>
          obtain ⟨l, i4⟩ := p
          obtain ⟨s4, q1, q2, q3, q4, q5⟩ := g4 l i4 e4
          obtain ⟨o4, n4, _⟩ := nmR_ok e4
          have b4 := nmb_b hT b3.2.2 n4
          have mm : Md [] [3, 4, 5] s s4 := Md_t k2 (Md_t l2 (Md_t m2 q2))
          have hc4 := md_RPc hc mm
          have ho4 := md_RPo ho mm
          have hn := DA_lt hA o2.1 o2.2.1 o2.2.2
          rw [q1, Option.bind_some]
          dsimp only
          rw [if_neg i10, rdA_nI (by omega) (by decide), Option.bind_some, hc4.2.1, l5, m5, L_7, nI_mul, nI_add, stA_nI (by omega) (by decide), Option.bind_some, stA_nI (by omega) (by decide), Option.bind_some, stA_nI (by omega) (by decide), Option.bind_some, wr1_ne (by decide), wr1_ne (by decide), wr1_ne (by decide), q5, stA_nI (by omega) (by decide), Option.bind_some, rdA_nI (by omega) (by decide), Option.bind_some, wr1_ne (by decide), wr1_ne (by decide), wr1_ne (by decide), wr1_ne (by decide), hc4.2.1, nI_1, stA_nI (by omega) (by decide), Option.bind_some]
          generalize hs5 : wr1 (wr1 (wr1 (wr1 (wr1 s4 89 (7 * t + q_nc A) (nI a)) 90 (7 * t + q_nc A) (nI c)) 91 (7 * t + q_nc A) (nI k)) 92 (7 * t + q_nc A) (nI l)) 88 t (nI (q_nc A + 1)) = s5
          have hR5 : RRF t s4 s5 := by
            rw [← hs5]
            exact RRF_t (RRF_t (RRF_t (RRF_t (RRF_w (by decide) rfl hn) (RRF_w (by decide) rfl hn)) (RRF_w (by decide) rfl hn)) (RRF_w (by decide) rfl hn)) (RRF_1 (by decide) rfl)
          have oth : ∀ m, m ≠ 88 → m ≠ 89 → m ≠ 90 → m ≠ 91 → m ≠ 92 → s5.1 m = s4.1 m := by
            intro m m1 m2 m3 m4 m5
            rw [← hs5, wr1_ne m1, wr1_ne m5, wr1_ne m4, wr1_ne m3, wr1_ne m2]
          have g := aC_ag (A := A) (a := a) (c := c) (k := k) (l := l)
          refine ⟨1, s5, rfl, RRF_t (RRF_m mm) hR5, Or.inr ⟨aC A a c k l, i4, rfl, rfl, ⟨?_, ?_, ⟨?_, ?_, fun x hx => ?_⟩, ?_⟩, by omega, b4.2.2⟩⟩
          · rw [oth 85 (by decide) (by decide) (by decide) (by decide) (by decide)]; exact q3
          · rw [oth 85 (by decide) (by decide) (by decide) (by decide) (by decide)]; exact q4
          · rw [oth 87 (by decide) (by decide) (by decide) (by decide) (by decide), ag_nb g (by decide)]; exact hc4.1
          · rw [← hs5, wr1_at, if_pos rfl, aC_nc]
          · rw [aC_nc] at hx
            have x89 : s5.1 89 (7 * t + x) = if 7 * t + x = 7 * t + q_nc A then nI a else s4.1 89 (7 * t + x) := by
              rw [← hs5, wr1_ne (by decide), wr1_ne (by decide), wr1_ne (by decide), wr1_ne (by decide), wr1_at]
            have x90 : s5.1 90 (7 * t + x) = if 7 * t + x = 7 * t + q_nc A then nI c else s4.1 90 (7 * t + x) := by
              rw [← hs5, wr1_ne (by decide), wr1_ne (by decide), wr1_ne (by decide), wr1_at, wr1_ne (by decide)]
            have x91 : s5.1 91 (7 * t + x) = if 7 * t + x = 7 * t + q_nc A then nI k else s4.1 91 (7 * t + x) := by
              rw [← hs5, wr1_ne (by decide), wr1_ne (by decide), wr1_at, wr1_ne (by decide), wr1_ne (by decide)]
            have x92 : s5.1 92 (7 * t + x) = if 7 * t + x = 7 * t + q_nc A then nI l else s4.1 92 (7 * t + x) := by
              rw [← hs5, wr1_ne (by decide), wr1_at, wr1_ne (by decide), wr1_ne (by decide), wr1_ne (by decide)]
            rw [x89, x90, x91, x92, aC_fr, aC_tb, aC_pr, aC_ln]
            by_cases e : x = q_nc A
            · rw [e, if_pos rfl, if_pos rfl, if_pos rfl, if_pos rfl, updN_s, updN_s, updN_s, updN_s]
              exact ⟨rfl, rfl, rfl, rfl⟩
            · have hne : ¬ 7 * t + x = 7 * t + q_nc A := by omega
              rw [if_neg hne, if_neg hne, if_neg hne, if_neg hne, updN_n e, updN_n e, updN_n e, updN_n e]
              exact hc4.2.2 x (by omega)
          · exact RPo_e (ag_RPo g (by decide) (by decide) (by decide) (by decide) (by decide) ho4) (fun m hm => oth m (by intro e; subst e; revert hm; decide) (by intro e; subst e; revert hm; decide) (by intro e; subst e; revert hm; decide) (by intro e; subst e; revert hm; decide) (by intro e; subst e; revert hm; decide))
end RRD
