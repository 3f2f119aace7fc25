/-! ===== fault ===== -/
section IAR
variable {h0 : Nat → pm_C} {B : Nat} {D : Nat → pd} {hi z : Nat} {s : mst} {N np : Nat} {As : Nat → AP} {Ps ow : Nat → Nat} {P L : Nat} {bt : Nat → Nat} {eb : Nat}
/-- the draft's TEXT alone changes -/
theorem IA_rd {s3 : mst} (h : IA eb D hi z ow s np As Ps P L bt) (hC : ∀ k, k < 85 ∨ k = 86 ∨ 130 ≤ k → k ≠ 3 → ¬ (P ≤ k ∧ k < P + 15) → s3.1 k = s.1 k) (h2 : s3.1 85 2 = s.1 85 2) (h19 : s3.1 85 19 = s.1 85 19) (hO : OTH np s s3) (hc : ∃ c, c ≤ 7 ∧ s3.1 (P + 1) 2 = nI c) (h7 : s3.1 (P + 1) 1 = nI 7) : IA eb D hi z ow s3 np As Ps P L bt := by
  obtain ⟨i1, i2, i3, i4⟩ := h
  obtain ⟨h1, h2', h3, h4, h5, h6, h7', h8, h9⟩ := i1
  obtain ⟨d1, d2, d3, d4, d5, d6⟩ := i2
  have hq := (pl_A26 d1).1
  have oth : ∀ k, k < 85 ∨ k = 86 ∨ 130 ≤ k → k ≠ 3 → (ow k < 64 * (np + 1) ∨ 64 * (np + 1) + 15 ≤ ow k) → s3.1 k = s.1 k := by
    intro k k1 k3 k2
    refine hC k k1 k3 (fun y => ?_)
    have o := d2 (k - P) (by omega)
    rw [show P + (k - P) = k by omega] at o
    omega
  have fix : ∀ k, k < 58 ∨ k = 86 → k ≠ 3 → s3.1 k = s.1 k := by
    intro k hk hk3
    have o1 : ow k = 0 := by
      rcases hk with hk | hk
      · exact h2' k hk
      · exact h3 k (by omega) (by omega)
    exact oth k (by omega) hk3 (by omega)
  have hpl : ∀ t', t' < np → PLN D hi ow s3 t' (Ps t') (As t') := by
    intro t' ht'
    obtain ⟨a1, a2, a3, a4, a5, a6, a7, a8, a9⟩ := h9 t' ht'
    have a9' : s3.1 4 t' = nI (Ps t') := by rw [fix 4 (by omega) (by omega)]; exact a9
    have bk : ∀ k, Ps t' ≤ k → k < Ps t' + 27 → s3.1 k = s.1 k := by
      intro k k1 k2
      have q6 := a2 (k - Ps t') (by omega)
      rw [show Ps t' + (k - Ps t') = k by omega] at q6
      exact oth k (by omega) (by omega) (by omega)
    refine ⟨a1, a2, a3, a4, a5, CP_eq a6 (fun k k1 k2 => bk k k1 (by omega)), SH_keep3 a7 a2 a1 (fun k k0 k1 k2 => oth k ?_ ?_ (by omega)), OTH_rp hO (by omega) a5 a8, a9'⟩
    · by_cases g : k < 85 ∨ k = 86 ∨ 130 ≤ k
      · exact g
      · have := h3 k (by omega) (by omega)
        omega
    · intro e
      have := h2' k (by omega)
      omega
  refine ⟨⟨h1, h2', h3, fun v hv => by rw [fix 53 (by omega) (by omega)]; exact h4 v hv, h5, by rw [h19]; exact h6, by rw [fix 0 (by omega) (by omega)]; exact h7', h8, hpl⟩, ⟨d1, d2, d3, d4, by rw [fix 0 (by omega) (by omega)]; exact d5, ?_⟩, TP_eq i3 (by rw [fix 1 (by omega) (by omega)]) h2 (fix 2 (by omega) (by omega)) (fix 86 (by omega) (by omega)), ?_⟩
  · have bk : ∀ k, P + 15 ≤ k → k < P + 27 → s3.1 k = s.1 k := fun k k1 k2 => hC k (by omega) (by omega) (by omega)
    unfold DRs at d6 ⊢
    rw [bk (P + 15) (by omega) (by omega), bk (P + 17) (by omega) (by omega), bk (P + 19) (by omega) (by omega), bk (P + 21) (by omega) (by omega), bk (P + 23) (by omega) (by omega), bk (P + 24) (by omega) (by omega), bk (P + 25) (by omega) (by omega)]
    exact ⟨hc, h7, d6.2.2⟩
  · unfold RM at i4 ⊢
    rw [nuS_eq (s := s) np (fun t' ht' => ?_)]
    · exact i4
    · obtain ⟨a1, a2, a3, a4, a5, a6, a7, a8, a9⟩ := h9 t' ht'
      have o25 := a2 25 (by omega)
      exact oth _ (by omega) (by omega) (by omega)
theorem CTX_tp (h : TP s L bt) : CTX s (tby L bt) L := by
  obtain ⟨t1, t2, t3, t4⟩ := h
  refine ⟨TX_of t1 (fun i hi => (t4 i hi).1), t2, fun i hi => ?_⟩
  unfold tby
  rw [if_pos hi]
  exact (t4 i hi).2.1
theorem RTX_tp (h : TP s L bt) : RTX s (tby L bt) L := by
  obtain ⟨t1, t2, t3, t4⟩ := h
  refine ⟨TX_of t1 (fun i hi => (t4 i hi).1), t3, fun i hi => ?_⟩
  unfold tby
  rw [if_pos hi]
  exact (t4 i hi).2.2
theorem rdm_0_5 (h : FX D hi) : oR (mkM h0 B D hi z s) (B + 0) 10 5 = some (rof B (s.1 0 5)) := rd_0_5 h
/-- both read the TEXT -/
theorem both_rd (hN : 1000 ≤ N) (h : IA eb D hi z ow s np As Ps P L bt) : ∃ r s1 w s3, F_Reader_readInto N (mkM h0 B D hi z s) (B + 3) (B + P) = some (r, (mkM h0 B D hi z (s1))) ∧ IA eb D hi z ow s1 np As Ps P L bt ∧ G_M_readPlan N (wrI s1 85 0 0) = some (w, s3) ∧ IA eb D hi z ow s3 np As Ps P L bt ∧ ((w = 0 ∧ r ≠ -1 ∧ s3.1 85 4 = r) ∨ (w = 1 ∧ r = -1 ∧ s3.1 85 4 = -1 ∧ ∃ A', rdT (tby L bt) = .inr A' ∧ DA A' ∧ SET s1 P A' ∧ SET s3 P A' ∧ RPc s3 np A' ∧ RPo s3 np A')) := by
  obtain ⟨i1, ⟨d1, d2, d3, d4, d5, d6⟩, i3, i4⟩ := id h
  have h1 := i1.1
  have hnp := i1.2.2.2.2.1
  obtain ⟨⟨c, c1, c2⟩, c3, c4⟩ := id d6
  obtain ⟨r, s1, e1, m1, q1, q2, q3⟩ := c_readInto (N := N) (h0 := h0) (B := B) (D := D) (hi := hi) (z := z) hN h1 d1 d3 d4 (CTX_tp i3) c1 c2 c3
  have n1 : ∀ k, k ≠ 3 → ¬ (P ≤ k ∧ k < P + 15) → s1.1 k = s.1 k := m1
  have n85 : ∀ k, 85 ≤ k → k < 130 → s1.1 k = s.1 k := fun k k1 k2 => n1 k (by omega) (by omega)
  have hp1 : ∀ k, k ∈ pers → 86 < k ∧ k < 130 := by decide
  have IA1 : IA eb D hi z ow s1 np As Ps P L bt := IA_rd h (fun k k1 k2 k3 => n1 k k2 k3) (by rw [n85 85 (by omega) (by omega)]) (by rw [n85 85 (by omega) (by omega)]) (OTH_e (fun k hk => n85 k (by have := hp1 k hk; omega) (by have := hp1 k hk; omega))) q1 q2
  have m0 : Md [] [0] s1 (wrI s1 85 0 0) := Md_f (by decide)
  have x0 : RTX (wrI s1 85 0 0) (tby L bt) L := RTX_md (RTX_tp IA1.2.2.1) m0 (by decide) (by decide)
  obtain ⟨w, s3, e3, m3, q4⟩ := r_readPlan (N := N) hN (show np < 7 by omega) x0 (by rw [m0.2.1 19 (by decide)]; exact IA1.1.2.2.2.2.2.1)
  have k3 : ∀ k, k ≠ 85 → k ∉ rdK → s3.1 k = s1.1 k := fun k k1 k2 => (m3.1.1 k k2 k1).trans (m0.1 k (by simp) k1)
  have hrd : ∀ k, k ∈ rdK → 86 < k ∧ k < 100 := by decide
  have k3' : ∀ k, k < 85 ∨ k = 86 ∨ 130 ≤ k → s3.1 k = s1.1 k := fun k hk => k3 k (by omega) (fun y => by have := hrd k y; omega)
  have blk : ∀ k, P ≤ k → k < P + 27 → s3.1 k = s1.1 k := fun k k1 k2 => k3' k (by clear q1 q3 q4 d6 c4; omega)
  have IA3 : IA eb D hi z ow s3 np As Ps P L bt := IA_rd IA1 (fun k k1 k2 k3 => k3' k k1) (by rw [m3.1.2.1 2 (by decide), m0.2.1 2 (by decide)]) (by rw [m3.1.2.1 19 (by decide), m0.2.1 19 (by decide)]) (OTH_t (OTH_e (fun k hk => m0.1 k (by simp) (by have := hp1 k hk; omega))) m3.2) (by rw [blk _ (by omega) (by omega)]; exact q1) (by rw [blk _ (by omega) (by omega)]; exact q2)
  refine ⟨r, s1, w, s3, e1, IA1, e3, IA3, ?_⟩
  rcases q3 with ⟨f, g1, g2, g3⟩ | ⟨A', g1, g2, g3, g4⟩
  · rcases q4 with ⟨f', y1, y2, y3⟩ | ⟨A', y1, y2, y3⟩
    · rw [g1] at y1
      have := Sum.inl.inj y1
      have hL : L ≤ 300 := i3.1
      refine Or.inl ⟨y2, by rw [g3]; exact nI_n1 (by omega), by rw [y3, g3, this]⟩
    · rw [g1] at y1
      exact absurd y1 (by simp)
  · rcases q4 with ⟨f', y1, y2, y3⟩ | ⟨A2, y1, y2, y3, y4, y5⟩
    · rw [g1] at y1
      exact absurd y1 (by simp)
    · rw [g1] at y1
      have := Sum.inr.inj y1
      rw [← this] at y4 y5
      refine Or.inr ⟨y2, g2, y3, A', g1, g3, g4, ⟨CPc_e g4.1 (fun k k1 k2 => blk k (by clear q1; omega) (by clear q1; omega)), CPl_e g4.2 (fun k k1 k2 => blk k (by clear q1; omega) (by clear q1; omega))⟩, y4, y5⟩
theorem st_fault (hN : 1000 ≤ N) : STP eb h0 B (fun S => F_BP_fault N S (B + 0)) (fun s => G_M_fault N s) := by
  intro D hi z s ⟨ow, np, As, Ps, P, L, bt, h⟩
  have h1 := h.1.1
  obtain ⟨d1, d2, d3, d4, d5, d6⟩ := id h.2.1
  obtain ⟨r, s1, w, s3, e1, j1, e3, j3, q⟩ := both_rd (h0 := h0) (B := B) hN h
  refine ⟨r, D, hi, z, s1, s3, ?_, h1, ?_, ow, np, As, Ps, P, L, bt, j3⟩
  · show F_BP_fault N (mkM h0 B D hi z s) (B + 0) = _
    unfold F_BP_fault
    rw [rcm_0 h1, if_pos rfl, rdm_0_1 h1, Option.bind_some]
    dsimp only
    rw [rdm_0_5 h1, Option.bind_some, d5, rof_nI (by omega)]
    dsimp only
    rw [e1, Option.bind_some]
  · show G_M_fault N s1 = _
    unfold G_M_fault
    rw [e3, Option.bind_some]
    dsimp only
    have : s3.1 85 4 = r := by
      rcases q with ⟨_, _, q⟩ | ⟨_, q1, q2, _⟩
      · exact q
      · rw [q1, q2]
    rw [this]
end IAR
