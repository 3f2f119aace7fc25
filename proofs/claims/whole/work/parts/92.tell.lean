/-! ===== what a TEST tells: both sides; which WORLDS fit: the reference ===== -/
def WD (A : AP) (k w : Nat) (b : Nat × Nat) (wet v : Nat) : Prop := (q_ek A k = 0 ∧ HB A w b wet (q_nd A w b (q_es A k) (q_ee A k)) (q_ey A k) (q_ei A k) v) ∨ (q_ek A k = 1 ∧ MT A w b wet (q_es A k) (q_ee A k) v)
theorem WD_u {A : AP} {k w wet v v' : Nat} {b : Nat × Nat} (h : WD A k w b wet v) (h' : WD A k w b wet v') : v = v' := by
  rcases h with ⟨h1, h2⟩ | ⟨h1, h2⟩
  · rcases h' with ⟨g1, g2⟩ | ⟨g1, g2⟩
    · exact HB_u h2 g2
    · omega
  · rcases h' with ⟨g1, g2⟩ | ⟨g1, g2⟩
    · omega
    · exact MT_u h2 g2
theorem WD_lt {A : AP} {k w wet v : Nat} {b : Nat × Nat} (h : WD A k w b wet v) : v < 3000 := by
  rcases h with ⟨h1, h2⟩ | ⟨h1, h2⟩
  · have := h2.1; omega
  · exact h2.1
/-- a WORLD fits all READINGS -/
def FT (A : AP) (w : Nat) : Prop := ∀ k, k < q_nr A → WD A (q_rt A k) w (0, 0) (q_rw A k) (q_rv A k)
section TELR
variable {N t w wet : Nat} {s : mst} {A : AP} {b : Nat × Nat}
theorem r_would (hN : 1000 ≤ N) (ht : t < 6) (hG : GW A w b wet) (hR : RP s t A) (hW : RW s t A w b wet) {k : Nat} (hk : k < q_ne A) : ∃ v s', G_M_would N s (nI k) = some (nI v, s') ∧ Md [109] [] s s' ∧ WD A k w b wet v := by
  have hA := hG.1
  have hc := hA.1
  unfold WFc at hc
  obtain ⟨w1, w2, w3, w4, w5, w6⟩ := hA.2.2.2.2.2.1 k hk
  have hul := q_st_lt hA w2
  obtain ⟨e1, e2, e3, e4, e5⟩ := hR.2.2.2.1.2 k hk
  have e0 := hW.1
  have eu : 8 * (q_es A k / 8) + q_es A k % 8 = q_es A k := by omega
  unfold G_M_would G_M_would_78
  rw [e0, L_12, nI_mul, nI_add, rdA_nI (by omega) (by decide), Option.bind_some, e1, rdA_nI (by omega) (by decide), Option.bind_some, e2, rdA_nI (by omega) (by decide), Option.bind_some, e3, rdA_nI (by omega) (by decide), Option.bind_some, e4]
  by_cases h0 : q_ek A k = 0
  · obtain ⟨e6, e7⟩ := e5 h0
    obtain ⟨v, s', f1, f2, f3⟩ := r_heardAt hN ht hG hR hW w2.1 w2.2 (show q_ee A k < 2 by omega) w4 (show q_ei A k < 2 by omega)
    rw [eu] at f3
    rw [if_pos (by rw [h0]; rfl), rdA_nI (by omega) (by decide), Option.bind_some, e6, rdA_nI (by omega) (by decide), Option.bind_some, e7, f1, Option.bind_some]
    exact ⟨v, s', rfl, f2, Or.inl ⟨h0, f3⟩⟩
  · obtain ⟨v, f1, f2⟩ := r_metresAt hN ht hG hR hW w2 (show q_ee A k < 2 by omega)
    rw [if_neg (nI_ne0 (by omega) (by omega)), Option.bind_some, Option.bind_some, Option.bind_some, f2, Option.bind_some]
    exact ⟨v, s, rfl, Md_r, Or.inr ⟨by omega, f1⟩⟩
theorem r_wouldIn (hN : 1000 ≤ N) (ht : t < 6) (hG : GW A w (0, 0) wet) (hR : RP s t A) {k : Nat} (hk : k < q_ne A) : ∃ v s', G_M_wouldIn N s (nI t) (nI k) (nI w) (nI wet) = some (nI v, s') ∧ Md [106, 107, 108, 109] [29, 30, 31, 34] s s' ∧ WD A k w (0, 0) wet v := by
  obtain ⟨s1, f1, f2, f3⟩ := r_lay (N := N) (by omega) ht hG hR
  have R1 : RP s1 t A := RP_md hR f3 (by decide)
  obtain ⟨v, s2, g1, g2, g3⟩ := r_would hN ht hG R1 f2 hk
  refine ⟨v, s2, ?_, Md_t (Md_m f3 (by decide) (by decide)) (Md_m g2 (by decide) (by decide)), g3⟩
  unfold G_M_wouldIn
  rw [f1, Option.bind_some, g1]
  rfl
theorem r_fits (hN : 1000 ≤ N) (ht : t < 6) (hA : WF A) (hw : w < 1024) (hR : RP s t A) : ∃ r s', G_M_fits N s (nI t) (nI w) = some (r, s') ∧ Md [106, 107, 108, 109] [29, 30, 31, 34] s s' ∧ ((r = 1 ∧ FT A w) ∨ (r = 0 ∧ ¬ FT A w)) := by
  have hc := hA.1
  unfold WFc at hc
  unfold G_M_fits
  refine Exists.elim (lpQ (F := fun f k s => G_M_fits_2 N (nI t) (nI w) f (nI k) s) (n := q_nr A) (I := fun k s' => Md [106, 107, 108, 109] [29, 30, 31, 34] s s' ∧ ∀ k', k' < k → WD A (q_rt A k') w (0, 0) (q_rw A k') (q_rv A k')) (Q := fun r => Md [106, 107, 108, 109] [29, 30, 31, 34] s r.2 ∧ ((r.1 = 1 ∧ FT A w) ∨ (r.1 = 0 ∧ ¬ FT A w))) ?_ ?_ N 0 s (by omega) (by omega) ⟨Md_r, fun k' hk' => by omega⟩) ?_
  · intro f k s' hk ⟨i1, i2⟩
    have R' : RP s' t A := RP_md hR i1 (by decide)
    obtain ⟨w1, w2, w3⟩ := hA.2.2.2.2.2.2.1 k hk
    obtain ⟨e1, e2, e3⟩ := R'.2.2.2.2.1.2 k hk
    have e0 := rp_nr R'
    have hG : GW A w (0, 0) (q_rw A k) := ⟨hA, hw, w2, Or.inl rfl⟩
    obtain ⟨v, s2, f1, f2, f3⟩ := r_wouldIn hN ht hG R' w1
    have e4 : s2.1 120 (24 * t + k) = nI (q_rv A k) := by rw [f2.1 120 (by decide) (by decide)]; exact e3
    have hv := WD_lt f3
    have hst : G_M_fits_2 N (nI t) (nI w) (f + 1) (nI k) s' = if nI v = nI (q_rv A k) then G_M_fits_2 N (nI t) (nI w) f (nI (k + 1)) s2 else some (0, s2) := by
      show GB_M_fits_2 N (G_M_fits_2 N (nI t) (nI w) f) (nI t) (nI w) (nI k) s' = _
      unfold GB_M_fits_2 G_M_fits_50
      rw [rdA_nI (by omega) (by decide), Option.bind_some, e0, if_neg (nI_ge hk (by omega)), L_24, nI_mul, nI_add, rdA_nI (by omega) (by decide), Option.bind_some, e1, rdA_nI (by omega) (by decide), Option.bind_some, e2, f1, Option.bind_some]
      dsimp only
      rw [rdA_nI (by omega) (by decide), Option.bind_some, e4, nI_1]
    by_cases c : v = q_rv A k
    · left
      refine ⟨s2, ⟨Md_t i1 f2, fun k' hk' => ?_⟩, hst.trans ?_⟩
      · by_cases hkk : k' = k
        · rw [hkk, ← c]; exact f3
        · exact i2 k' (by omega)
      · rw [if_pos (by rw [c])]
    · right
      refine ⟨(0, s2), ⟨Md_t i1 f2, Or.inr ⟨rfl, fun hft => c (WD_u f3 (hft k hk))⟩⟩, hst.trans ?_⟩
      rw [if_neg (fun e => c ((nI_eq (by omega) (by omega)).mp e))]
  · intro f s' ⟨i1, i2⟩
    have R' : RP s' t A := RP_md hR i1 (by decide)
    refine ⟨(1, s'), ⟨i1, Or.inl ⟨rfl, i2⟩⟩, ?_⟩
    show GB_M_fits_2 N (G_M_fits_2 N (nI t) (nI w) f) (nI t) (nI w) (nI (q_nr A)) s' = _
    unfold GB_M_fits_2 G_M_fits_58
    rw [rdA_nI (by omega) (by decide), Option.bind_some, rp_nr R', if_pos (nI_le (Nat.le_refl _) (by omega))]
  · intro r ⟨⟨h1, h2⟩, e⟩
    exact ⟨r.1, r.2, e, h1, h2⟩
end TELR
section TELC
variable {h0 : Nat → pm_C} {B : Nat} {D : Nat → pd} {hi z : Nat} {s : mst} {N P : Nat} {A : AP} {w wet : Nat} {b : Nat × Nat}
theorem c_tell (hN : 1000 ≤ N) (hf : FX D hi) (hp : PL D hi P) (hG : GW A w b wet) (hb : GB A b) (hP : P = 58 ∨ 130 ≤ P) (hPb : P + 30 < 2 ^ 31) (hcp : CP s P A) (h : CW D hi s A w b P) {k : Nat} (hk : k < q_ne A) : ∃ v s', F_Bench_tell N (mkM h0 B D hi z s) (B + 5) (B + P) (nI k) (nI wet) = some (nI v, (mkM h0 B D hi z (s'))) ∧ Fm (fun q => 47 ≤ q ∧ q ≤ 51) s s' ∧ WD A k w b wet v := by
  have hA := hG.1
  have hc := hA.1
  unfold WFc at hc
  obtain ⟨w1, w2, w3, w4, w5, w6⟩ := hA.2.2.2.2.2.1 k hk
  obtain ⟨t0, t1, t2, t3, t4⟩ := hcp.2.2.2.2.1.2.2 k hk
  have hcn := hcp.2.2.2.2.1.1
  have at_ : ∀ (s' : mst) (q : Nat), q < 5 → s'.1 (P + 19) 2 = nI (q_ne A) → F_Ledger_at N (mkM h0 B D hi z (s')) (B + (P + 19)) (nI k) (nI q) = some (s'.1 (P + 19 + 1) (5 * k + q), (mkM h0 B D hi z (s'))) := fun s' q hq hs' => c_at (pl_L19 hp) hs' (by omega) hk hq
  unfold F_Bench_tell
  rw [rcm_5 hf, if_pos rfl, pl_8 hp]
  dsimp only [Option.bind_some]
  rw [L_1, at_ s 1 (by omega) hcn, t1]
  dsimp only [Option.bind_some]
  rw [pl_8 hp]
  dsimp only [Option.bind_some]
  rw [L_2, at_ s 2 (by omega) hcn, t2]
  dsimp only [Option.bind_some]
  rw [pl_8 hp]
  dsimp only [Option.bind_some]
  rw [L_0, at_ s 0 (by omega) hcn, t0]
  dsimp only [Option.bind_some]
  by_cases h1k : q_ek A k = 1
  · obtain ⟨r, r1, r2⟩ := c_measure (N := N) (h0 := h0) (B := B) (z := z) hN hf hp hG hb hPb hcp h w2 (show q_ee A k < 2 by omega)
    rw [if_pos (by rw [h1k]), rdm_5_0 hf]
    dsimp only [Option.bind_some]
    rw [r2]
    exact ⟨r, s, rfl, Fm_r, Or.inr ⟨h1k, r1⟩⟩
  · obtain ⟨s1, e1, m1, o1⟩ := c_send (N := N) (h0 := h0) (B := B) (z := z) hN hf hG hb hP hPb h w2 (show q_ee A k < 2 by omega)
    have hcn1 : s1.1 (P + 19) 2 = nI (q_ne A) := by rw [m1.1 (P + 19) (by omega)]; exact hcn
    obtain ⟨v, o2, o3⟩ := o1 (q_ey A k) (q_ei A k) w4 (by omega)
    have u3 : s1.1 (P + 19 + 1) (5 * k + 3) = nI (q_ey A k) := by rw [m1.1 (P + 19 + 1) (by omega)]; exact t3
    have u4 : s1.1 (P + 19 + 1) (5 * k + 4) = nI (q_ei A k) := by rw [m1.1 (P + 19 + 1) (by omega)]; exact t4
    rw [if_neg (fun e => h1k ((nI_eq (by omega) (by omega)).mp e)), rdm_5_1 hf]
    dsimp only [Option.bind_some]
    rw [rdm_5_0 hf]
    dsimp only [Option.bind_some]
    rw [e1]
    dsimp only [Option.bind_some]
    rw [rdm_5_1 hf]
    dsimp only [Option.bind_some]
    rw [pl_8 hp]
    dsimp only [Option.bind_some]
    rw [L_3, at_ s1 3 (by omega) hcn1, u3]
    dsimp only [Option.bind_some]
    rw [pl_8 hp]
    dsimp only [Option.bind_some]
    rw [L_4, at_ s1 4 (by omega) hcn1, u4]
    dsimp only [Option.bind_some]
    rw [c_comesTo hf (by omega) (by omega), o2]
    exact ⟨v, s1, rfl, m1, Or.inl ⟨by omega, o3⟩⟩
end TELC
