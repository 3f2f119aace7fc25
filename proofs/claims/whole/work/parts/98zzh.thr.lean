/-! ===== a throw: a cell that is nobody's ===== -/
section THR
variable {h0 : Nat → pm_C} {B : Nat} {D : Nat → pd} {hi z : Nat} {s : mst} {N np : Nat} {As : Nat → AP} {Ps ow : Nat → Nat} {P L : Nat} {bt : Nat → Nat} {eb : Nat}
theorem IA_thr (h : IA eb D hi z ow s np As Ps P L bt) (he : eb < 10000) : IA (eb + 1) (upD D hi (.inl (9, 0))) (hi + 1) (z + 6) (fun k => if k = hi then 0 else ow k) (up1 s.1 hi (fun _ => 0), s.2) np As Ps P L bt := by
  generalize hD' : upD D hi (.inl (9, 0)) = D'
  generalize how : (fun k => if k = hi then 0 else ow k) = ow'
  generalize hs' : ((up1 s.1 hi (fun _ => 0), s.2) : mst) = s'
  have ex : EX D hi ow D' (hi + 1) ow' := ⟨by omega, fun k hk => ⟨by rw [← hD']; exact upD_n (by omega), by rw [← how]; exact if_neg (by omega)⟩⟩
  have e : ∀ k, k < hi → s'.1 k = s.1 k := fun k hk => by rw [← hs']; exact up1_ne (by omega)
  obtain ⟨i1, i2, i3, i4⟩ := h
  obtain ⟨h1, h2, h3, h4, h5, h6, h7, h8, h9⟩ := i1
  obtain ⟨d1, d2, d3, d4, d5, d6⟩ := i2
  have hfx := h1.1
  have hq := (pl_A26 d1).1
  have hp1 : ∀ k, k ∈ pers → k < 130 := by decide
  have hpl : ∀ t', t' < np → PLN D' (hi + 1) ow' s' t' (Ps t') (As t') := by
    intro t' ht'
    obtain ⟨a1, a2, a3, a4, a5, a6, a7, a8, a9⟩ := h9 t' ht'
    have hqa := (pl_A26 a1).1
    exact ⟨PL_ex ex a1, OB_ex ex a1 a2, a3, a4, a5, CP_eq a6 (fun k k1 k2 => e k (by omega)), SH_ex ex (SH_keep3 a7 a2 a1 (fun k k0 _ _ => e k k0)), RP_eq a8 (fun q hq2 => e q (by have := hp1 q hq2; omega)), by rw [e 4 (by omega)]; exact a9⟩
  unfold RM at i4
  refine ⟨⟨FX_ex ex h1, fun k hk => by rw [(ex.2 k (by omega)).2]; exact h2 k hk, fun k k1 k2 => by rw [(ex.2 k (by omega)).2]; exact h3 k k1 k2, fun v hv => by rw [e 53 (by omega)]; exact h4 v hv, h5, by rw [e 85 (by omega)]; exact h6, by rw [e 0 (by omega)]; exact h7, by omega, hpl⟩, ⟨PL_ex ex d1, OB_ex ex d1 d2, d3, d4, by rw [e 0 (by omega)]; exact d5, DRs_eq d6 (fun k k1 k2 => e k (by omega))⟩, TP_eq i3 (by rw [e 1 (by omega)]) (by rw [e 85 (by omega)]) (e 2 (by omega)) (e 86 (by omega)), ?_⟩
  unfold RM
  rw [nuS_eq (s := s) np (fun t' ht' => e _ (by have := (pl_A26 (h9 t' ht').1).1; omega))]
  omega
end THR
