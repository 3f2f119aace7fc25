/-! ===== all that holds between calls ===== -/
/-- the draft: a Plan of which nothing but a TEXT was told -/
def DRs (s : mst) (P : Nat) : Prop := (∃ c, c ≤ 7 ∧ s.1 (P + 1) 2 = nI c) ∧ s.1 (P + 1) 1 = nI 7 ∧ s.1 (P + 15) 2 = nI 0 ∧ s.1 (P + 15) 1 = nI 6 ∧ s.1 (P + 17) 2 = nI 0 ∧ s.1 (P + 17) 1 = nI 10 ∧ s.1 (P + 19) 2 = nI 0 ∧ s.1 (P + 19) 1 = nI 12 ∧ s.1 (P + 21) 2 = nI 0 ∧ s.1 (P + 21) 1 = nI 24 ∧ (∀ h, h < 10 → s.1 (P + 23) h = cd 0) ∧ s.1 (P + 24) 2 = nI 0 ∧ s.1 (P + 24) 4 = nI 0 ∧ ∀ j, j < 24 → s.1 (P + 25) j = -1
def DRF (D : Nat → pd) (hi : Nat) (ow : Nat → Nat) (s : mst) (np P : Nat) : Prop := PL D hi P ∧ OB ow np P ∧ (P = 58 ∨ 130 ≤ P) ∧ P + 30 < 2 ^ 31 ∧ s.1 0 5 = nI P ∧ DRs s P
/-- the TAPE -/
def TP (s : mst) (L : Nat) (bt : Nat → Nat) : Prop := L ≤ 300 ∧ s.1 1 1 = nI L ∧ s.1 85 2 = nI L ∧ ∀ i, i < L → bt i < 256 ∧ s.1 2 i = nI (bt i) ∧ s.1 86 i &&& 255 = nI (bt i)
def nuS (s : mst) (Ps : Nat → Nat) : Nat → Nat
  | 0 => 0
  | n + 1 => nuS s Ps n + nu s (Ps n)
def RM (eb hi z : Nat) (s : mst) (np : Nat) (Ps : Nat → Nat) : Prop := hi + nuS s Ps np + 51 * (6 - np) ≤ 436 + eb ∧ z + 1024 * nuS s Ps np + 30000 * (6 - np) ≤ 200000 + 6 * eb ∧ eb ≤ 10000
def IA (eb : Nat) (D : Nat → pd) (hi z : Nat) (ow : Nat → Nat) (s : mst) (np : Nat) (As : Nat → AP) (Ps : Nat → Nat) (P L : Nat) (bt : Nat → Nat) : Prop := INV D hi ow s np As Ps ∧ DRF D hi ow s np P ∧ TP s L bt ∧ RM eb hi z s np Ps
theorem DRs_eq {s s' : mst} {P : Nat} (h : DRs s P) (e : ∀ k, P ≤ k → k < P + 27 → s'.1 k = s.1 k) : DRs s' P := by
  unfold DRs at h ⊢
  rw [e (P + 1) (by omega) (by omega), e (P + 15) (by omega) (by omega), e (P + 17) (by omega) (by omega), e (P + 19) (by omega) (by omega), e (P + 21) (by omega) (by omega), e (P + 23) (by omega) (by omega), e (P + 24) (by omega) (by omega), e (P + 25) (by omega) (by omega)]
  exact h
theorem TP_eq {s s' : mst} {L : Nat} {bt : Nat → Nat} (h : TP s L bt) (e1 : s'.1 1 1 = s.1 1 1) (e2 : s'.1 85 2 = s.1 85 2) (e3 : s'.1 2 = s.1 2) (e4 : s'.1 86 = s.1 86) : TP s' L bt := by
  unfold TP at h ⊢
  rw [e1, e2, e3, e4]
  exact h
theorem nuS_eq {s s' : mst} {Ps : Nat → Nat} : ∀ n, (∀ t, t < n → s'.1 (Ps t + 25) = s.1 (Ps t + 25)) → nuS s' Ps n = nuS s Ps n := by
  intro n
  induction n with
  | zero => intro _; rfl
  | succ n ih =>
    intro h
    simp only [nuS]
    rw [ih (fun t ht => h t (by omega))]
    unfold nu
    rw [h n (by omega)]
theorem nuS_one {s s' : mst} {Ps : Nat → Nat} {t : Nat} : ∀ n, t < n → (∀ t', t' < n → t' ≠ t → s'.1 (Ps t' + 25) = s.1 (Ps t' + 25)) → nuS s' Ps n + nu s (Ps t) = nuS s Ps n + nu s' (Ps t) := by
  intro n
  induction n with
  | zero => intro h; omega
  | succ n ih =>
    intro h1 h2
    simp only [nuS]
    by_cases c : t = n
    · subst c
      rw [nuS_eq t (fun t' ht' => h2 t' (by omega) (by omega))]
      omega
    · have := ih (by omega) (fun t' ht' h => h2 t' (by omega) h)
      have e : nu s' (Ps n) = nu s (Ps n) := by
        unfold nu
        rw [h2 n (by omega) (fun e => c e.symm)]
      omega
section IAS
variable {h0 : Nat → pm_C} {B : Nat} {D D' : Nat → pd} {hi z hi' z' : Nat} {s : mst} {N np : Nat} {As : Nat → AP} {Ps ow ow' : Nat → Nat} {P L : Nat} {bt : Nat → Nat} {eb : Nat}
/-- a question: scratch cells alone -/
theorem IA_q {s1 s3 : mst} (h : IA eb D hi z ow s np As Ps P L bt) (hm : Fe (fun q => 5 ≤ q ∧ q ≤ 57) s s1) (hz : TZ s1) (hM : Me scK scJ s1 s3) : IA eb D hi z ow s3 np As Ps P L bt := by
  obtain ⟨i1, i2, i3, i4⟩ := h
  have hK : ∀ k, k ∈ scK → 85 < k ∧ k < 130 ∧ k ≠ 86 := by decide
  have out : ∀ q, q < 5 ∨ (58 ≤ q ∧ q < 85) ∨ q = 86 ∨ 130 ≤ q → s3.1 q = s.1 q := fun q hq => (hM.1 q (fun y => by have := hK q y; omega) (by omega)).trans (hm q (by omega))
  obtain ⟨d1, d2, d3, d4, d5, d6⟩ := i2
  refine ⟨INV_sc (INV_cls i1 hm hz) hM, ⟨d1, d2, d3, d4, by rw [out 0 (by omega)]; exact d5, DRs_eq d6 (fun k k1 k2 => out k (by omega))⟩, TP_eq i3 (by rw [out 1 (by omega)]) (by rw [hM.2 2 (by decide), hm 85 (by omega)]) (out 2 (by omega)) (out 86 (by omega)), ?_⟩
  unfold RM at i4 ⊢
  rw [nuS_eq (s := s) np (fun t ht => out _ (by have := (i1.2.2.2.2.2.2.2.2 t ht).2.2.1; omega))]
  exact i4
theorem TZ_fe {s1 : mst} {K : Nat → Prop} (h : TZ s) (hm : Fe K s s1) (hK : ¬ K 53) : TZ s1 := by
  unfold TZ at h ⊢
  rw [hm 53 hK]
  exact h
theorem SH_ex {t Q : Nat} {A : AP} (e : EX D hi ow D' hi' ow') (h : SH D hi ow s t Q A) : SH D' hi' ow' s t Q A := by
  obtain ⟨⟨hC, h2⟩, h3⟩ := h
  refine ⟨⟨fun j hj => ?_, h2⟩, h3⟩
  rcases hC j hj with y | ⟨K, y1, y2, y3, y4⟩
  · exact Or.inl y
  · exact Or.inr ⟨K, y1, y2, AR_ex e y3, by rw [(e.2 K y3.1).2]; exact y4⟩
/-- the sheet stays where its cells stay -/
theorem SH_keep3 {s' : mst} {t Q : Nat} {A : AP} (hS : SH D hi ow s t Q A) (hO : OB ow t Q) (hp : PL D hi Q) (he : ∀ k, k < hi → 64 * (t + 1) + 24 ≤ ow k → ow k ≤ 64 * (t + 1) + 50 → s'.1 k = s.1 k) : SH D hi ow s' t Q A := by
  obtain ⟨⟨hC, r, r1, r2, r3⟩, hfr⟩ := hS
  have hq := (pl_A26 hp).1
  have o24 := hO 24 (by omega)
  have o25 := hO 25 (by omega)
  have o26 := hO 26 (by omega)
  have e24 : s'.1 (Q + 24) = s.1 (Q + 24) := he _ (by omega) (by omega) (by omega)
  have e25 : s'.1 (Q + 25) = s.1 (Q + 25) := he _ (by omega) (by omega) (by omega)
  have e26 : s'.1 (Q + 26) = s.1 (Q + 26) := he _ (by omega) (by omega) (by omega)
  have k1 : COL D hi ow s' t Q := by
    unfold COL
    rw [e25]
    exact hC
  have k3 : ∀ j w, j < 24 → has s Q j → cv s' Q j w = cv s Q j w := by
    intro j w hj hh
    unfold cv
    rw [e25]
    rcases hC j hj with h1 | ⟨K', h1, h2, h3, h4⟩
    · exact absurd h1 hh
    · rw [h1, nS_nI h2, he K' h3.1 (by omega) (by omega)]
  refine ⟨⟨k1, r, by rw [e24]; exact r1, r2, fun j hj => ?_⟩, ?_⟩
  · obtain ⟨a1, a2, a3⟩ := r3 j hj
    refine ⟨a1, by unfold has; rw [e25]; exact a2, fun w hw => ?_⟩
    rw [k3 j w (tb_lt r2 hj) a2]
    exact a3 w hw
  · unfold FLs
    rw [e24, e26]
    exact hfr
theorem OB_ex {t Q : Nat} (e : EX D hi ow D' hi' ow') (hp : PL D hi Q) (h : OB ow t Q) : OB ow' t Q := by
  intro r hr
  have := (pl_A26 hp).1
  rw [(e.2 (Q + r) (by omega)).2]
  exact h r hr
/-- what a question that fills the sheet of PLAN t leaves -/
theorem IA_grow {s1 : mst} {t : Nat} (h : IA eb D hi z ow s np As Ps P L bt) (ht : t < np) (e : EX D hi ow D' hi' ow') (hm : Fe (fun k => KG ow hi t k ∨ k = 5 ∨ k = 53) s s1) (hz : TZ s1) (hS : SH D' hi' ow' s1 t (Ps t) (As t)) (c1 : hi' + nu s1 (Ps t) = hi + nu s (Ps t)) (c2 : z' + 1024 * nu s1 (Ps t) = z + 1024 * nu s (Ps t)) : IA eb D' hi' z' ow' s1 np As Ps P L bt := by
  obtain ⟨i1, i2, i3, i4⟩ := h
  obtain ⟨h1, h2, h3, h4, h5, h6, h7, h8, h9⟩ := i1
  have hfx := h1.1
  have fix : ∀ k, k < 130 → (k < 5 ∨ 52 = k ∨ (54 ≤ k ∧ k ≤ 57) ∨ 85 ≤ k) → s1.1 k = s.1 k := by
    intro k k1 k2
    refine hm k (fun y => ?_)
    have o1 : ow k = 0 := by
      by_cases c : k < 58
      · exact h2 k c
      · exact h3 k (by omega) k1
    unfold KG at y
    omega
  have blk : ∀ t' Q, t' ≠ t → PL D hi Q → OB ow t' Q → (Q = 58 ∨ 130 ≤ Q) → ∀ k, Q ≤ k → k < Q + 27 → s1.1 k = s.1 k := by
    intro t' Q q1 q2 q3 q4 k k1 k2
    have q5 := (pl_A26 q2).1
    have q6 := q3 (k - Q) (by omega)
    rw [show Q + (k - Q) = k by omega] at q6
    refine hm k (fun y => ?_)
    unfold KG at y
    omega
  have hpl : ∀ t', t' < np → PLN D' hi' ow' s1 t' (Ps t') (As t') := by
    intro t' ht'
    obtain ⟨a1, a2, a3, a4, a5, a6, a7, a8, a9⟩ := h9 t' ht'
    have hp1 : ∀ k, k ∈ pers → 85 ≤ k ∧ k < 130 := by decide
    have RPk : RP s1 t' (As t') := RP_eq a8 (fun q hq => fix q (hp1 q hq).2 (by have := hp1 q hq; omega))
    have a9' : s1.1 4 t' = nI (Ps t') := by rw [fix 4 (by omega) (by omega)]; exact a9
    by_cases c : t' = t
    · subst c
      refine ⟨PL_ex e a1, OB_ex e a1 a2, a3, a4, a5, CP_fe a6 hm (fun k k1 k2 y => ?_), hS, RPk, a9'⟩
      rcases y with y | y
      · exact KG_block a2 a3 (pl_A26 a1).1 k k1 k2 y
      · omega
    · have bk := blk t' (Ps t') c a1 a2 a3
      refine ⟨PL_ex e a1, OB_ex e a1 a2, a3, a4, a5, CP_eq a6 (fun k k1 k2 => bk k k1 (by omega)), SH_ex e (SH_keep3 a7 a2 a1 (fun k k0 k1 k2 => hm k (fun y => ?_))), RPk, a9'⟩
      rcases y with y | y | y
      · unfold KG at y
        rcases y with y | y | y
        · have := h2 k (by omega); omega
        · omega
        · omega
      · have := h2 k (by omega); omega
      · have := h2 k (by omega); omega
  obtain ⟨d1, d2, d3, d4, d5, d6⟩ := i2
  have hle := e.1
  have rm1 := nuS_one (s := s) (s' := s1) (Ps := Ps) np ht (fun t' ht' c => by
    obtain ⟨a1, a2, a3, a4, a5, a6, a7, a8, a9⟩ := h9 t' ht'
    exact blk t' (Ps t') c a1 a2 a3 _ (by omega) (by omega))
  unfold RM at i4
  refine ⟨⟨FX_ex e h1, fun k hk => by rw [(e.2 k (by omega)).2]; exact h2 k hk, fun k k1 k2 => by rw [(e.2 k (by omega)).2]; exact h3 k k1 k2, hz, h5, by rw [fix 85 (by omega) (by omega)]; exact h6, by rw [fix 0 (by omega) (by omega)]; exact h7, ?_, hpl⟩, ⟨PL_ex e d1, OB_ex e d1 d2, d3, d4, by rw [fix 0 (by omega) (by omega)]; exact d5, DRs_eq d6 (blk np P (by omega) d1 d2 d3)⟩, TP_eq i3 (by rw [fix 1 (by omega) (by omega)]) (by rw [fix 85 (by omega) (by omega)]) (fix 2 (by omega) (by omega)) (fix 86 (by omega) (by omega)), ?_⟩
  · omega
  · unfold RM
    omega
/-- some state between calls; a call answers as the reference, and a state between calls is left -/
def IAX (eb : Nat) (D : Nat → pd) (hi z : Nat) (s : mst) : Prop := ∃ ow np As Ps P L bt, IA eb D hi z ow s np As Ps P L bt
def STP {α : Type} (eb : Nat) (h0 : Nat → pm_C) (B : Nat) (cls : pm_S → Option (α × pm_S)) (ref : mst → Option (α × mst)) : Prop := ∀ D hi z s, IAX eb D hi z s → ∃ ans D' hi' z' s1 s3, cls (mkM h0 B D hi z s) = some (ans, mkM h0 B D' hi' z' s1) ∧ FX D' hi' ∧ ref s1 = some (ans, s3) ∧ IAX eb D' hi' z' s3
theorem STP_q {α : Type} {cls : pm_S → Option (α × pm_S)} {ref : mst → Option (α × mst)} (H : ∀ D hi z ow s np As Ps, INV D hi ow s np As Ps → ∃ ans s1, cls (mkM h0 B D hi z s) = some (ans, mkM h0 B D hi z s1) ∧ Fe (fun q => (5 ≤ q ∧ q ≤ 52) ∨ (54 ≤ q ∧ q ≤ 57)) s s1 ∧ ∀ D2 hi2 ow2 Ps2 s2, INV D2 hi2 ow2 s2 np As Ps2 → ∃ s3, ref s2 = some (ans, s3) ∧ Me scK scJ s2 s3) : STP eb h0 B cls ref := by
  intro D hi z s ⟨ow, np, As, Ps, P, L, bt, h⟩
  obtain ⟨ans, s1, e1, e2, e3⟩ := H D hi z ow s np As Ps h.1
  have hz : TZ s1 := TZ_fe h.1.2.2.2.1 e2 (by omega)
  have hf : Fe (fun q => 5 ≤ q ∧ q ≤ 57) s s1 := Fe_m e2 (fun q hq => by omega)
  have h1 := INV_cls h.1 hf hz
  obtain ⟨s3, g1, g2⟩ := e3 D hi ow Ps s1 h1
  exact ⟨ans, D, hi, z, s1, s3, e1, h.1.1, g1, ow, np, As, Ps, P, L, bt, IA_q h hf hz g2⟩
theorem STP_r {α : Type} {cls : pm_S → Option (α × pm_S)} {ref : mst → Option (α × mst)} (H : ∀ D hi z ow s np As Ps, INV D hi ow s np As Ps → ∃ ans s1, cls (mkM h0 B D hi z s) = some (ans, mkM h0 B D hi z s1) ∧ Fe (fun q => (5 ≤ q ∧ q ≤ 52) ∨ (54 ≤ q ∧ q ≤ 57)) s s1 ∧ ∀ s2, RPs s2 np As → ∃ s3, ref s2 = some (ans, s3) ∧ Me scK scJ s2 s3) : STP eb h0 B cls ref :=
  STP_q (fun D hi z ow s np As Ps h => by
    obtain ⟨ans, s1, e1, e2, e3⟩ := H D hi z ow s np As Ps h
    exact ⟨ans, s1, e1, e2, fun D2 hi2 ow2 Ps2 s2 h2 => e3 s2 (INV_rps h2)⟩)
theorem STP_g {α : Type} {cls : pm_S → Option (α × pm_S)} {ref : mst → Option (α × mst)} (H : ∀ D hi z ow s np As Ps P L bt, IA eb D hi z ow s np As Ps P L bt → ∃ ans D' hi' z' ow' s1, cls (mkM h0 B D hi z s) = some (ans, mkM h0 B D' hi' z' s1) ∧ IA eb D' hi' z' ow' s1 np As Ps P L bt ∧ ∀ s2, RPs s2 np As → ∃ s3, ref s2 = some (ans, s3) ∧ Me scK scJ s2 s3) : STP eb h0 B cls ref := by
  intro D hi z s ⟨ow, np, As, Ps, P, L, bt, h⟩
  obtain ⟨ans, D', hi', z', ow', s1, e1, e2, e3⟩ := H D hi z ow s np As Ps P L bt h
  obtain ⟨s3, g1, g2⟩ := e3 s1 (INV_rps e2.1)
  exact ⟨ans, D', hi', z', s1, s3, e1, e2.1.1, g1, ow', np, As, Ps, P, L, bt, IA_q e2 (fun _ _ => rfl) e2.1.2.2.2.1 g2⟩
end IAS
