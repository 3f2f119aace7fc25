/-! ===== what holds between calls ===== -/
/-- the t-th Plan on both sides -/
def PLN (D : Nat → pd) (hi : Nat) (ow : Nat → Nat) (s : mst) (t P : Nat) (A : AP) : Prop := PL D hi P ∧ OB ow t P ∧ (P = 58 ∨ 130 ≤ P) ∧ P + 30 < 2 ^ 31 ∧ WF A ∧ CP s P A ∧ SH D hi ow s t P A ∧ RP s t A ∧ s.1 4 t = nI P
def INV (D : Nat → pd) (hi : Nat) (ow : Nat → Nat) (s : mst) (np : Nat) (As : Nat → AP) (Ps : Nat → Nat) : Prop := FX D hi ∧ OF ow ∧ (∀ k, 85 ≤ k → k < 130 → ow k = 0) ∧ TZ s ∧ np ≤ 6 ∧ s.1 85 19 = nI np ∧ s.1 0 6 = nI np ∧ hi + 1000 < 2 ^ 31 ∧ ∀ t, t < np → PLN D hi ow s t (Ps t) (As t)
section INVS
variable {h0 : Nat → pm_C} {B : Nat} {D : Nat → pd} {hi z : Nat} {s : mst} {N np : Nat} {As : Nat → AP} {Ps ow : Nat → Nat} {p0 p1 : Int32}
theorem INV_rps (h : INV D hi ow s np As Ps) : RPs s np As := ⟨h.2.2.2.2.2.1, h.2.2.2.2.1, fun t ht => ⟨(h.2.2.2.2.2.2.2.2 t ht).2.2.2.2.1, (h.2.2.2.2.2.2.2.2 t ht).2.2.2.2.2.2.2.1⟩⟩
/-- the sheet stays where its cells stay -/
theorem SH_keep {s' : mst} {t P : Nat} {A : AP} {K : Nat → Prop} (hS : SH D hi ow s t P A) (hO : OB ow t P) (hm : Fe K s s') (hK : ∀ k, 64 * (t + 1) + 24 ≤ ow k → ow k ≤ 64 * (t + 1) + 50 → ¬ K k) : SH D hi ow s' t P A := by
  obtain ⟨⟨hC, r, r1, r2, r3⟩, hfr⟩ := hS
  have o24 := hO 24 (by omega)
  have o26 := hO 26 (by omega)
  have e24 : s'.1 (P + 24) = s.1 (P + 24) := hm _ (hK _ (by omega) (by omega))
  have e26 : s'.1 (P + 26) = s.1 (P + 26) := hm _ (hK _ (by omega) (by omega))
  obtain ⟨k1, k2, k3⟩ := col_keep2 hC hO hm (fun q hq => hK q (by omega) (by omega))
  refine ⟨⟨k1, r, by rw [e24]; exact r1, r2, fun j hj => ?_⟩, ?_⟩
  · obtain ⟨a1, a2, a3⟩ := r3 j hj
    refine ⟨a1, by unfold has; rw [k2]; exact a2, fun w hw => ?_⟩
    rw [k3 j w (tb_lt r2 hj) a2]
    exact a3 w hw
  · unfold FLs
    rw [e24, e26]
    exact hfr
/-- what the class's scratch cells do not touch -/
theorem INV_cls {s' : mst} (h : INV D hi ow s np As Ps) (hm : Fe (fun q => 5 ≤ q ∧ q ≤ 57) s s') (hz : TZ s') : INV D hi ow s' np As Ps := by
  obtain ⟨h1, h2, h3, h4, h5, h6, h7, h8, h9⟩ := h
  refine ⟨h1, h2, h3, hz, h5, by rw [hm 85 (by omega)]; exact h6, by rw [hm 0 (by omega)]; exact h7, h8, fun t ht => ?_⟩
  obtain ⟨a1, a2, a3, a4, a5, a6, a7, a8, a9⟩ := h9 t ht
  refine ⟨a1, a2, a3, a4, a5, CP_fe a6 hm (fun q q1 q2 => by omega), SH_keep a7 a2 hm (fun q q1 q2 q3 => by have := h2 q (by omega); omega), RP_eq a8 (fun q hq => hm q (fun z => ?_)), by rw [hm 4 (by omega)]; exact a9⟩
  have hp : ∀ k, k ∈ pers → 85 ≤ k := by decide
  have := hp q hq
  omega
/-- what the reference's scratch cells do not touch -/
theorem INV_ref {s' : mst} {K J : List Nat} (h : INV D hi ow s np As Ps) (hm : Me K J s s') (hK : ∀ k, k ∈ K → 85 < k ∧ k < 130) (hKp : ∀ k, k ∈ pers → k ∉ K ∧ k ≠ 85) (hJ : 19 ∉ J) : INV D hi ow s' np As Ps := by
  obtain ⟨h1, h2, h3, h4, h5, h6, h7, h8, h9⟩ := h
  have out : ∀ q, q < 85 ∨ 130 ≤ q → s'.1 q = s.1 q := fun q hq => hm.1 q (fun z => by have := hK q z; omega) (by omega)
  have hfe : Fe (fun q => 85 ≤ q ∧ q < 130) s s' := fun q hq => out q (by omega)
  refine ⟨h1, h2, h3, fun v hv => by rw [out 53 (by omega)]; exact h4 v hv, h5, by rw [hm.2 19 hJ]; exact h6, by rw [out 0 (by omega)]; exact h7, h8, fun t ht => ?_⟩
  obtain ⟨a1, a2, a3, a4, a5, a6, a7, a8, a9⟩ := h9 t ht
  refine ⟨a1, a2, a3, a4, a5, CP_fe a6 hfe (fun q q1 q2 => by omega), SH_keep a7 a2 hfe (fun q q1 q2 q3 => by have := h3 q q3.1 q3.2; omega), RP_eq a8 (fun q hq => hm.1 q (hKp q hq).1 (hKp q hq).2), by rw [out 4 (by omega)]; exact a9⟩
theorem c_planAt_t {t : Nat} (h : INV D hi ow s np As Ps) (ht : t < np) : F_BP_planAt N (mkM h0 B D hi z s) (B + 0) (nI t) = some (some (B + Ps t), (mkM h0 B D hi z s)) := by
  obtain ⟨h1, h2, h3, h4, h5, h6, h7, h8, h9⟩ := h
  obtain ⟨a1, a2, a3, a4, a5, a6, a7, a8, a9⟩ := h9 t ht
  unfold F_BP_planAt
  rw [rcm_0 h1, if_pos rfl, if_neg (nI_pos (by omega)), rdm_0_6 h1]
  dsimp only [Option.bind_some]
  rw [h7, if_neg (nI_ge ht (by omega)), rdm_0_2 h1]
  dsimp only [Option.bind_some]
  rw [q_n (fx_lt h1 (show 4 < 130 by decide)) (fx_4 h1) (Or.inl rfl)]
  dsimp only [Option.bind_some]
  have hl : nI t < nI 6 := nI_lt (by omega) (by decide)
  rw [if_pos hl, q_r (fx_lt h1 (show 4 < 130 by decide)) (fx_4 h1) (Or.inl rfl) (show t < 6 by omega) (by decide), a9, rof_nI (by omega)]
  rfl
theorem c_planAt_f (h : INV D hi ow s np As Ps) (hno : ¬ okn np p0) : F_BP_planAt N (mkM h0 B D hi z s) (B + 0) p0 = some (none, (mkM h0 B D hi z s)) := by
  obtain ⟨h1, h2, h3, h4, h5, h6, h7, h8, h9⟩ := h
  unfold F_BP_planAt F_BP_planAt_21
  rw [rcm_0 h1, if_pos rfl, rdm_0_6 h1]
  dsimp only [Option.bind_some]
  rw [h7]
  rcases okn_not (show np < 2 ^ 31 by omega) hno with c | c
  · rw [if_pos c]
  · by_cases d : p0 < 0
    · rw [if_pos d]
    · rw [if_neg d, if_pos c]
theorem c_planWith_t {t w : Nat} (h : INV D hi ow s np As Ps) (ht : t < np) (hw : w < 2 ^ q_nt (As t)) : F_BP_planWith N (mkM h0 B D hi z s) (B + 0) (nI t) (nI w) = some (some (B + Ps t), (mkM h0 B D hi z s)) := by
  have h1 := h.1
  obtain ⟨a1, a2, a3, a4, a5, a6, a7, a8, a9⟩ := h.2.2.2.2.2.2.2.2 t ht
  unfold F_BP_planWith F_BP_planWith_23_2
  rw [rcm_0 h1, if_pos rfl, c_planAt_t h ht]
  dsimp only [Option.bind_some]
  rw [c_hasWorld_t a1 a6 a5 hw]
  dsimp only [Option.bind_some]
  rw [if_neg i10]
theorem c_planWith_f (h : INV D hi ow s np As Ps) (hno : ¬ okW np As p0 p1) : F_BP_planWith N (mkM h0 B D hi z s) (B + 0) p0 p1 = some (none, (mkM h0 B D hi z s)) := by
  have h1 := h.1
  unfold F_BP_planWith F_BP_planWith_22 F_BP_planWith_23
  rw [rcm_0 h1, if_pos rfl]
  by_cases c : okn np p0
  · obtain ⟨t, ht, rfl⟩ := c
    obtain ⟨a1, a2, a3, a4, a5, a6, a7, a8, a9⟩ := h.2.2.2.2.2.2.2.2 t ht
    rw [c_planAt_t h ht]
    dsimp only [Option.bind_some]
    rw [c_hasWorld_f a1 a6 a5 (fun ⟨w, hw, e⟩ => hno ⟨t, w, ht, hw, rfl, e⟩)]
    dsimp only [Option.bind_some]
    rw [if_pos rfl]
  · rw [c_planAt_f h c]
    rfl
end INVS
