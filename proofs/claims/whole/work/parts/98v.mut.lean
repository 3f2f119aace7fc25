/-! ===== what changes one PLAN leaves the others ===== -/
def bz (k : Nat) : Nat := if 89 ≤ k ∧ k ≤ 92 then 7 else if 94 ≤ k ∧ k ≤ 98 then 60 else if 101 ≤ k ∧ k ≤ 105 then 10 else if 112 ≤ k ∧ k ≤ 117 then 12 else if 119 ≤ k ∧ k ≤ 121 then 24 else if k = 125 then 10 else 1
def OTH (t : Nat) (s s' : mst) : Prop := ∀ k, k ∈ pers → ∀ j, (j < bz k * t ∨ bz k * t + bz k ≤ j) → s'.1 k j = s.1 k j
theorem OTH_r {t : Nat} {s : mst} : OTH t s s := fun _ _ _ _ => rfl
theorem OTH_t {t : Nat} {s s' s'' : mst} (h : OTH t s s') (h' : OTH t s' s'') : OTH t s s'' := fun k hk j hj => (h' k hk j hj).trans (h k hk j hj)
theorem OTH_w {t k v : Nat} {s : mst} {x : Int32} (hv : v < bz k) : OTH t s (wr1 s k (bz k * t + v) x) := by
  intro q hq j hj
  rw [wr1_g]
  split
  · rename_i c
    obtain ⟨rfl, rfl⟩ := c
    omega
  · rfl
theorem OTH_e {t : Nat} {s s' : mst} (h : ∀ k, k ∈ pers → s'.1 k = s.1 k) : OTH t s s' := fun k hk j _ => by rw [h k hk]
theorem OTH_rp {t t' : Nat} {s s' : mst} {A : AP} (h : OTH t s s') (hne : t' ≠ t) (hA : WF A) (hR : RP s t' A) : RP s' t' A := by
  have hc := hA.1
  unfold WFc at hc
  have c1 : ∀ k, k ∈ pers → bz k = 1 → s'.1 k t' = s.1 k t' := fun k hk e => h k hk t' (by rw [e]; omega)
  have c7 : ∀ k, k ∈ pers → bz k = 7 → ∀ x, x < 7 → s'.1 k (7 * t' + x) = s.1 k (7 * t' + x) := fun k hk e x hx => h k hk _ (by rw [e]; omega)
  have c60 : ∀ k, k ∈ pers → bz k = 60 → ∀ x, x < 60 → s'.1 k (60 * t' + x) = s.1 k (60 * t' + x) := fun k hk e x hx => h k hk _ (by rw [e]; omega)
  have c10 : ∀ k, k ∈ pers → bz k = 10 → ∀ x, x < 10 → s'.1 k (10 * t' + x) = s.1 k (10 * t' + x) := fun k hk e x hx => h k hk _ (by rw [e]; omega)
  have c12 : ∀ k, k ∈ pers → bz k = 12 → ∀ x, x < 12 → s'.1 k (12 * t' + x) = s.1 k (12 * t' + x) := fun k hk e x hx => h k hk _ (by rw [e]; omega)
  have c24 : ∀ k, k ∈ pers → bz k = 24 → ∀ x, x < 24 → s'.1 k (24 * t' + x) = s.1 k (24 * t' + x) := fun k hk e x hx => h k hk _ (by rw [e]; omega)
  obtain ⟨⟨a1, a2, a3⟩, ⟨b1, b2, b3⟩, ⟨d1, d2⟩, ⟨e1, e2⟩, ⟨f1, f2⟩, g⟩ := hR
  refine ⟨⟨?_, ?_, fun x hx => ?_⟩, ⟨?_, ?_, fun k hk => ?_⟩, ⟨?_, fun k hk => ?_⟩, ⟨?_, fun k hk => ?_⟩, ⟨?_, fun k hk => ?_⟩, fun j hj => ?_⟩
  · rw [c1 87 (by decide) rfl]; exact a1
  · rw [c1 88 (by decide) rfl]; exact a2
  · rw [c7 89 (by decide) rfl x (by omega), c7 90 (by decide) rfl x (by omega), c7 91 (by decide) rfl x (by omega), c7 92 (by decide) rfl x (by omega)]; exact a3 x hx
  · rw [c1 93 (by decide) rfl]; exact b1
  · rw [c1 99 (by decide) rfl]; exact b2
  · rw [c60 94 (by decide) rfl k (by omega), c60 95 (by decide) rfl k (by omega), c60 96 (by decide) rfl k (by omega), c60 97 (by decide) rfl k (by omega), c60 98 (by decide) rfl k (by omega)]; exact b3 k hk
  · rw [c1 100 (by decide) rfl]; exact d1
  · rw [c10 101 (by decide) rfl k (by omega), c10 102 (by decide) rfl k (by omega), c10 103 (by decide) rfl k (by omega), c10 104 (by decide) rfl k (by omega), c10 105 (by decide) rfl k (by omega)]; exact d2 k hk
  · rw [c1 111 (by decide) rfl]; exact e1
  · rw [c12 112 (by decide) rfl k (by omega), c12 113 (by decide) rfl k (by omega), c12 114 (by decide) rfl k (by omega), c12 115 (by decide) rfl k (by omega), c12 116 (by decide) rfl k (by omega), c12 117 (by decide) rfl k (by omega)]; exact e2 k hk
  · rw [c1 118 (by decide) rfl]; exact f1
  · rw [c24 119 (by decide) rfl k (by omega), c24 120 (by decide) rfl k (by omega), c24 121 (by decide) rfl k (by omega)]; exact f2 k hk
  · rw [c10 125 (by decide) rfl j hj]; exact g j hj
def updA (As : Nat → AP) (t : Nat) (A : AP) : Nat → AP := fun u => if u = t then A else As u
/-- a PLAN with one field another -/
def upF (A : AP) (f : Nat) (g : Nat → Nat) : AP := fun f' => if f' = f then g else A f'
section IAM
variable {D : Nat → pd} {hi z : Nat} {s : mst} {np : Nat} {As : Nat → AP} {Ps ow : Nat → Nat} {P L : Nat} {bt : Nat → Nat} {eb : Nat}
theorem IA_mut {s3 : mst} {t : Nat} {A' : AP} (h : IA eb D hi z ow s np As Ps P L bt) (ht : t < np) (hC : ∀ k, k < 85 ∨ k = 86 ∨ 130 ≤ k → ¬ (Ps t ≤ k ∧ k < Ps t + 25) → s3.1 k = s.1 k) (h2 : s3.1 85 2 = s.1 85 2) (h19 : s3.1 85 19 = s.1 85 19) (hO : OTH t s s3) (hW : WF A') (hCP : CP s3 (Ps t) A') (hS : SH D hi ow s3 t (Ps t) A') (hR : RP s3 t A') : IA eb D hi z ow s3 np (updA As t A') Ps P L bt := by
  obtain ⟨i1, i2, i3, i4⟩ := h
  obtain ⟨h1, h2', h3, h4, h5, h6, h7, h8, h9⟩ := i1
  obtain ⟨e1, e2, e3, e4, e5, e6, e7, e8, e9⟩ := h9 t ht
  have hq := (pl_A26 e1).1
  -- cells of another owner
  have oth : ∀ k, k < 85 ∨ k = 86 ∨ 130 ≤ k → (ow k < 64 * (t + 1) ∨ 64 * (t + 1) + 25 ≤ ow k) → s3.1 k = s.1 k := by
    intro k k1 k2
    refine hC k k1 (fun y => ?_)
    have o := e2 (k - Ps t) (by omega)
    rw [show Ps t + (k - Ps t) = k by omega] at o
    omega
  have blk : ∀ t' Q, t' ≠ t → OB ow t' Q → (Q = 58 ∨ 130 ≤ Q) → ∀ k, Q ≤ k → k < Q + 27 → s3.1 k = s.1 k := by
    intro t' Q q1 q3 q4 k k1 k2
    have q6 := q3 (k - Q) (by omega)
    rw [show Q + (k - Q) = k by omega] at q6
    exact oth k (by omega) (by omega)
  have fix : ∀ k, k < 58 ∨ k = 86 → s3.1 k = s.1 k := by
    intro k hk
    have o1 : ow k = 0 := by
      rcases hk with hk | hk
      · exact h2' k hk
      · exact h3 k (by omega) (by omega)
    exact oth k (by omega) (by omega)
  have hpl : ∀ t', t' < np → PLN D hi ow s3 t' (Ps t') (updA As t A' t') := by
    intro t' ht'
    obtain ⟨a1, a2, a3, a4, a5, a6, a7, a8, a9⟩ := h9 t' ht'
    have a9' : s3.1 4 t' = nI (Ps t') := by rw [fix 4 (by omega)]; exact a9
    by_cases c : t' = t
    · subst c
      rw [show updA As t' A' t' = A' from if_pos rfl]
      exact ⟨a1, a2, a3, a4, hW, hCP, hS, hR, a9'⟩
    · rw [show updA As t A' t' = As t' from if_neg c]
      have bk := blk t' (Ps t') c a2 a3
      refine ⟨a1, a2, a3, a4, a5, CP_eq a6 (fun k k1 k2 => bk k k1 (by omega)), SH_keep3 a7 a2 a1 (fun k k0 k1 k2 => oth k ?_ (by omega)), OTH_rp hO c a5 a8, a9'⟩
      by_cases g : k < 85 ∨ k = 86 ∨ 130 ≤ k
      · exact g
      · have := h3 k (by omega) (by omega)
        omega
  obtain ⟨d1, d2, d3, d4, d5, d6⟩ := i2
  refine ⟨⟨h1, h2', h3, fun v hv => by rw [fix 53 (by omega)]; exact h4 v hv, h5, by rw [h19]; exact h6, by rw [fix 0 (by omega)]; exact h7, h8, hpl⟩, ⟨d1, d2, d3, d4, by rw [fix 0 (by omega)]; exact d5, DRs_eq d6 (blk np P (by omega) d2 d3)⟩, TP_eq i3 (by rw [fix 1 (by omega)]) h2 (fix 2 (by omega)) (fix 86 (by omega)), ?_⟩
  unfold RM at i4 ⊢
  rw [nuS_eq (s := s) np (fun t' ht' => ?_)]
  · exact i4
  · obtain ⟨a1, a2, a3, a4, a5, a6, a7, a8, a9⟩ := h9 t' ht'
    have o25 := a2 25 (by omega)
    exact oth _ (by omega) (by omega)
end IAM
