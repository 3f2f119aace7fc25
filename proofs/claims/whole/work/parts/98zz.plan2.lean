section PLB
variable {h0 : Nat → pm_C} {B : Nat} {D : Nat → pd} {hi z : Nat} {s : mst} {N np k : Nat} {As : Nat → AP} {Ps ow : Nat → Nat} {P L : Nat} {bt : Nat → Nat} {eb : Nat}
/-- the owners with a new draft -/
def owN (ow : Nat → Nat) (hi np : Nat) (k : Nat) : Nat := if hi ≤ k then 64 * (np + 2) + (k - hi) else ow k
theorem owN_l (h : k < hi) : owN ow hi np k = ow k := if_neg (by omega)
theorem owN_h {r : Nat} : owN ow hi np (hi + r) = 64 * (np + 2) + r := by
  unfold owN
  rw [if_pos (by omega)]
  omega
theorem nuS_new {s' : mst} {Qs : Nat → Nat} : ∀ n, (∀ t, t < n → Qs t = Ps t ∧ s'.1 (Ps t + 25) = s.1 (Ps t + 25)) → nuS s' Qs n = nuS s Ps n := by
  intro n
  induction n with
  | zero => intro _; rfl
  | succ n ih =>
    intro h
    simp only [nuS]
    rw [ih (fun t ht => h t (by omega))]
    unfold nu
    rw [(h n (by omega)).1, (h n (by omega)).2]
/-- the draft is a PLAN now, and there is a new draft -/
theorem IA_plan {D' : Nat → pd} {s3 : mst} {A' : AP} (h : IA eb D hi z ow s np As Ps P L bt) (hnp : np < 6) (hA : DA A') (hD : ∀ k, k < hi → D' k = D k) (hPn : PL D' (hi + 27) hi) (hdr : DRs s3 hi) (hC : ∀ k, k < 85 ∨ k = 86 ∨ 130 ≤ k → k < hi → k ≠ 0 → k ≠ 1 → k ≠ 3 → k ≠ 4 → ¬ (P ≤ k ∧ k < P + 15) → s3.1 k = s.1 k) (h05 : s3.1 0 5 = nI hi) (h06 : s3.1 0 6 = nI (np + 1)) (h11 : s3.1 1 1 = nI 0) (h4 : s3.1 4 np = nI P) (h4' : ∀ j, j ≠ np → s3.1 4 j = s.1 4 j) (h2 : s3.1 85 2 = nI 0) (h19 : s3.1 85 19 = nI (np + 1)) (hO : OTH np s s3) (hS : SET s3 P A') (hRc : RPc s3 np A') (hRo : RPo s3 np A') (r1 : s3.1 100 np = nI 0) (r2 : s3.1 111 np = nI 0) (r3 : s3.1 118 np = nI 0) (r4 : ∀ h, h < 10 → s3.1 125 (10 * np + h) = cd 0) : IA eb D' (hi + 27) (z + 1764) (owN ow hi np) s3 (np + 1) (updA As np A') (updN Ps np P) hi 0 bt := by
  obtain ⟨i1, i2, i3, i4⟩ := h
  obtain ⟨h1, h2', h3, h4z, h5, h6, h7', h8, h9⟩ := i1
  obtain ⟨d1, d2, d3, d4, d5, d6⟩ := i2
  have hq := (pl_A26 d1).1
  have hfx := h1.1
  have ex : EX D hi ow D' (hi + 27) (owN ow hi np) := ⟨by omega, fun k hk => ⟨hD k hk, owN_l hk⟩⟩
  unfold RM at i4
  have oth : ∀ k, k < 85 ∨ k = 86 ∨ 130 ≤ k → k < hi → k ≠ 0 → k ≠ 1 → k ≠ 3 → k ≠ 4 → (ow k < 64 * (np + 1) ∨ 64 * (np + 1) + 15 ≤ ow k) → s3.1 k = s.1 k := by
    intro k k1 kh q0 q1 q3 q4 k2
    refine hC k k1 kh q0 q1 q3 q4 (fun y => ?_)
    have o := d2 (k - P) (by omega)
    rw [show P + (k - P) = k by omega] at o
    omega
  have bkP : ∀ k, P + 15 ≤ k → k < P + 27 → s3.1 k = s.1 k := fun k k1 k2 => hC k (by omega) (by omega) (by omega) (by omega) (by omega) (by omega) (by omega)
  have hFX : FX D' (hi + 27) := ⟨by omega, fun k hk => by rw [hD k (by omega)]; exact h1.2 k hk⟩
  unfold DRs at d6
  have hpl : ∀ t', t' < np + 1 → PLN D' (hi + 27) (owN ow hi np) s3 t' (updN Ps np P t') (updA As np A' t') := by
    intro t' ht'
    by_cases c : t' = np
    · subst c
      rw [show updA As t' A' t' = A' from if_pos rfl, updN_s]
      obtain ⟨w1, w2, w3, w4, w5, w6, w7⟩ := hA
      obtain ⟨x1, x2, x3, x4, x5, x6, x7, x8, x9, x10, x11, x12, x13, x14⟩ := d6
      refine ⟨PL_ex ex d1, OB_ex ex d1 d2, d3, d4, w1, ⟨hS.1, hS.2, ⟨?_, ?_, fun i hi' => ?_⟩, ⟨?_, ?_, fun i hi' => ?_⟩, ⟨?_, ?_, fun i hi' => ?_⟩, ⟨?_, ?_, fun i hi' => ?_⟩, fun h hh => ?_⟩, SH_0 (fun j hj => Or.inl ?_) ?_ ?_, ⟨hRc, hRo, ⟨?_, fun i hi' => ?_⟩, ⟨?_, fun i hi' => ?_⟩, ⟨?_, fun i hi' => ?_⟩, fun h hh => ?_⟩, h4⟩
      · rw [bkP _ (by omega) (by omega), w2]; exact x3
      · rw [bkP _ (by omega) (by omega)]; exact x4
      · rw [w2] at hi'; omega
      · rw [bkP _ (by omega) (by omega), w3]; exact x5
      · rw [bkP _ (by omega) (by omega)]; exact x6
      · rw [w3] at hi'; omega
      · rw [bkP _ (by omega) (by omega), w4]; exact x7
      · rw [bkP _ (by omega) (by omega)]; exact x8
      · rw [w4] at hi'; omega
      · rw [bkP _ (by omega) (by omega), w5]; exact x9
      · rw [bkP _ (by omega) (by omega)]; exact x10
      · rw [w5] at hi'; omega
      · rw [bkP _ (by omega) (by omega), w6]; exact x11 h hh
      · rw [bkP _ (by omega) (by omega)]; exact x14 j hj
      · rw [bkP _ (by omega) (by omega)]; exact x12
      · rw [bkP _ (by omega) (by omega)]; exact x13
      · rw [w3]; exact r1
      · rw [w3] at hi'; omega
      · rw [w4]; exact r2
      · rw [w4] at hi'; omega
      · rw [w5]; exact r3
      · rw [w5] at hi'; omega
      · rw [w6]; exact r4 h hh
    · rw [show updA As np A' t' = As t' from if_neg c, updN_n c]
      obtain ⟨a1, a2, a3, a4, a5, a6, a7, a8, a9⟩ := h9 t' (by omega)
      have hqa := (pl_A26 a1).1
      have bk : ∀ k, Ps t' ≤ k → k < Ps t' + 27 → s3.1 k = s.1 k := by
        intro k k1 k2
        have q6 := a2 (k - Ps t') (by omega)
        rw [show Ps t' + (k - Ps t') = k by omega] at q6
        exact oth k (by omega) (by omega) (by omega) (by omega) (by omega) (by omega) (by omega)
      refine ⟨PL_ex ex a1, OB_ex ex a1 a2, a3, a4, a5, CP_eq a6 (fun k k1 k2 => bk k k1 (by omega)), SH_ex ex (SH_keep3 a7 a2 a1 (fun k k0 k1 k2 => oth k ?_ k0 ?_ ?_ ?_ ?_ (by omega))), OTH_rp hO (by omega) a5 a8, by rw [h4' t' c]; exact a9⟩
      · by_cases g : k < 85 ∨ k = 86 ∨ 130 ≤ k
        · exact g
        · have := h3 k (by omega) (by omega)
          omega
      · intro e; have := h2' k (by omega); omega
      · intro e; have := h2' k (by omega); omega
      · intro e; have := h2' k (by omega); omega
      · intro e; have := h2' k (by omega); omega
  refine ⟨⟨hFX, fun k hk => by rw [owN_l (by omega)]; exact h2' k hk, fun k k1 k2 => by rw [owN_l (by omega)]; exact h3 k k1 k2, fun v hv => ?_, by omega, h19, h06, by omega, hpl⟩, ⟨hPn, fun r hr => owN_h, Or.inr hfx, by omega, h05, hdr⟩, ⟨by omega, h11, h2, fun i hi' => by omega⟩, ?_⟩
  · rw [oth 53 (by omega) (by omega) (by omega) (by omega) (by omega) (by omega) (by have := h2' 53 (by omega); omega)]
    exact h4z v hv
  · unfold RM
    have e1 : nuS s3 (updN Ps np P) (np + 1) = nuS s3 (updN Ps np P) np + nu s3 P := by
      show nuS s3 (updN Ps np P) np + nu s3 (updN Ps np P np) = _
      rw [updN_s]
    have e2 : nuS s3 (updN Ps np P) np = nuS s Ps np := nuS_new np (fun t' ht' => by
      obtain ⟨a1, a2, a3, a4, a5, a6, a7, a8, a9⟩ := h9 t' ht'
      have hqa := (pl_A26 a1).1
      have o25 := a2 25 (by omega)
      exact ⟨updN_n (by omega), oth _ (by omega) (by omega) (by omega) (by omega) (by omega) (by omega) (by omega)⟩)
    have e3 : nu s3 P ≤ 24 := nuc_le 24
    omega
end PLB
