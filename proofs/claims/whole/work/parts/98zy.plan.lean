/-! ===== plan ===== -/
section PLA
variable {h0 : Nat → pm_C} {B : Nat} {D : Nat → pd} {hi z : Nat} {s : mst} {N np k : Nat} {As : Nat → AP} {Ps ow : Nat → Nat} {P L : Nat} {bt : Nat → Nat}
theorem q_s4 {n j K : Nat} {fl : List (Nat × Nat)} (hk : k < hi) (hD : D k = .inl (4, n)) (hj : j < n) (hn : n < 2 ^ 31) (hK : K < hi) (hDK : D K = .inr (4, fl)) (hKb : K < 2 ^ 31) : sQ (mkM h0 B D hi z s) (B + k) (nI j) (B + K) = some (mkM h0 B D hi z (wr1 s k j (nI K))) := by
  obtain ⟨h1, h2⟩ := mk_cell (h0 := h0) (B := B) (c := s.1) (e := s.2) (z := z) hk hD
  obtain ⟨g1, g2⟩ := mk_cell (h0 := h0) (B := B) (c := s.1) (e := s.2) (z := z) hK hDK
  have e1 : ps_h (mkM h0 B D hi z s) (B + k) = tC B (.inl (4, n)) (s.1 k) (s.2 k) := h1
  have e2 : pm_my (mkM h0 B D hi z s) (B + k) = true := h2
  have e5 : ps_h (mkM h0 B D hi z s) (B + K) = tC B (.inr (4, fl)) (s.1 K) (s.2 K) := g1
  have e6 : pm_my (mkM h0 B D hi z s) (B + K) = true := g2
  have e3 := pmin hj hn
  have e4 : (nI j).toNatClampNeg = j := nI_clamp (by omega)
  unfold sQ
  rw [e1]
  show (if (pm_my (mkM h0 B D hi z s) (B + k) && pm_my (mkM h0 B D hi z s) (B + K) && pm_in (nI j) n && pm_okv 4 4 (ps_h (mkM h0 B D hi z s) (B + K))) = true then some (pm_wr (mkM h0 B D hi z s) (B + k) (.inl (4, n, .inr (.inr (.inr (.inr (va_up (fun j => rof B (s.1 k j)) (nI j).toNatClampNeg (some (B + K))))))))) else none) = _
  rw [e2, e6, e3, e5, e4, rof_up hKb]
  show some (pm_wr (mkS h0 B D s.1 s.2 hi z) (B + k) _) = _
  rw [mk_wr (x := upd (s.1 k) j (nI K)) (y := s.2 k) (by rw [hD]; rfl), up1_self]
  rfl
theorem wrm_0_5 {q : Nat} (h : FX D hi) (hq : q < 2 ^ 31) : wF (mkM h0 B D hi z s) (B + 0) 10 5 (.object "BuriedPairs$Plan") (.ref (B + q)) = some (mkM h0 B D hi z (wr1 s 0 5 (nI q))) := wD_mk (fx_lt h (by decide)) (fx_0 h) (v := 0) rfl hq
/-- what the reference does behind a TEXT that is well -/
theorem r_planrest (hN : 20 ≤ N) (ht : np < 7) (h19 : s.1 85 19 = nI np) : ∃ s3, ((stA 0 (wrI s 85 2 0) 100 7 ((wrI s 85 2 0).1 85 19) 0).bind fun s3 => (stA 0 s3 111 7 (s3.1 85 19) 0).bind fun s4 => (stA 0 s4 118 7 (s4.1 85 19) 0).bind fun s5 => G_M_plan_60 N N 0 s5) = some (nI np, s3) ∧ Md [100, 111, 118, 125] [2, 19] s s3 ∧ OTH np s s3 ∧ s3.1 85 2 = nI 0 ∧ s3.1 85 19 = nI (np + 1) ∧ s3.1 100 np = nI 0 ∧ s3.1 111 np = nI 0 ∧ s3.1 118 np = nI 0 ∧ ∀ h, h < 10 → s3.1 125 (10 * np + h) = cd 0 := by
  have g0 : (wrI s 85 2 0).1 85 19 = nI np := by rw [wrI_1, wr1_at, if_neg (by decide)]; exact h19
  have hp85 : ∀ k, k ∈ pers → k ≠ 85 := by decide
  generalize hs0 : wrI s 85 2 0 = s0 at g0
  have m0 : Md [100, 111, 118, 125] [2, 19] s s0 := by rw [← hs0]; exact Md_f (by decide)
  have o0 : OTH np s s0 := by rw [← hs0]; exact OTH_e (fun k hk => wr1_ne (hp85 k hk))
  have z0 : s0.1 85 2 = nI 0 := by rw [← hs0, wrI_1, wr1_at, if_pos rfl]; rfl
  have I0 : Md [100, 111, 118, 125] [2] (wr1 (wr1 (wr1 s0 100 np 0) 111 np 0) 118 np 0) (wr1 (wr1 (wr1 s0 100 np 0) 111 np 0) 118 np 0) := Md_r
  generalize hs1 : wr1 (wr1 (wr1 s0 100 np 0) 111 np 0) 118 np 0 = s1 at I0
  have m1 : Md [100, 111, 118, 125] [2, 19] s0 s1 := by rw [← hs1]; exact Md_t (Md_t (Md_w (by decide) (by decide)) (Md_w (by decide) (by decide))) (Md_w (by decide) (by decide))
  have o1 : OTH np s0 s1 := by rw [← hs1]; exact OTH_t (OTH_t (OTH_1 rfl) (OTH_1 rfl)) (OTH_1 rfl)
  have n85 : s1.1 85 = s0.1 85 := by rw [← hs1, wr1_ne (by decide), wr1_ne (by decide), wr1_ne (by decide)]
  have a100 : s1.1 100 np = nI 0 := by rw [← hs1, wr1_ne (by decide), wr1_ne (by decide), wr1_at, if_pos rfl]; rfl
  have a111 : s1.1 111 np = nI 0 := by rw [← hs1, wr1_ne (by decide), wr1_at, if_pos rfl]; rfl
  have a118 : s1.1 118 np = nI 0 := by rw [← hs1, wr1_at, if_pos rfl]; rfl
  refine Exists.elim (lpE (n := 10) (F := fun f i s => G_M_plan_60 N f (nI i) s) (I := fun i s' => Md [125] [] s1 s' ∧ OTH np s1 s' ∧ ∀ h, h < i → s'.1 125 (10 * np + h) = cd 0) (fun f i s' hi' hI => ?_) N 0 s1 (by omega) (by omega) ⟨Md_r, OTH_r, fun h hh => by omega⟩) ?_
  · obtain ⟨j1, j2, j3⟩ := hI
    refine ⟨wr1 s' 125 (10 * np + i) (-1), ⟨Md_t j1 (Md_w (by decide) (by decide)), OTH_t j2 (OTH_k rfl hi'), fun h hh => ?_⟩, ?_⟩
    · rw [wr1_at]
      by_cases c : h = i
      · rw [if_pos (by omega), cd_0]
      · rw [if_neg (by omega)]; exact j3 h (by omega)
    · have g19 : s'.1 85 19 = nI np := by rw [j1.2.1 19 (by simp), n85]; exact g0
      show GB_M_plan_60 N (G_M_plan_60 N f) (nI i) s' = _
      unfold GB_M_plan_60
      rw [L_10, if_neg (nI_ge hi' (by decide)), g19, nI_mul, nI_add, stA_nI (by omega) (by decide), Option.bind_some, nI_1]
  · rintro f ⟨s2, ⟨j1, j2, j3⟩, ee⟩
    have g19 : s2.1 85 19 = nI np := by rw [j1.2.1 19 (by simp), n85]; exact g0
    have j1' : Md [100, 111, 118, 125] [2, 19] s1 s2 := Md_m j1 (by decide) (by simp)
    refine ⟨wr1 s2 85 19 (nI (np + 1)), ?_, Md_t (Md_t (Md_t m0 m1) j1') (Md_f (by decide)), OTH_t (OTH_t (OTH_t o0 o1) j2) (OTH_e (fun k hk => wr1_ne (hp85 k hk))), ?_, ?_, ?_, ?_, ?_, fun h hh => ?_⟩
    · rw [g0, stA_nI ht (by decide), Option.bind_some, wr1_ne (by decide), g0, stA_nI ht (by decide), Option.bind_some, wr1_ne (by decide), wr1_ne (by decide), g0, stA_nI ht (by decide), Option.bind_some, hs1]
      refine Eq.trans ee ?_
      show GB_M_plan_60 N (G_M_plan_60 N f) (nI 10) s2 = _
      unfold GB_M_plan_60 G_M_plan_87
      rw [if_pos (by decide), g19, nI_1, wrI_1, wr1_at, if_pos rfl, nI_pred]
    · rw [wr1_at, if_neg (by decide), j1.2.1 2 (by simp), n85]; exact z0
    · rw [wr1_at, if_pos rfl]
    · rw [wr1_ne (by decide), j1.1 100 (by decide) (by decide)]; exact a100
    · rw [wr1_ne (by decide), j1.1 111 (by decide) (by decide)]; exact a111
    · rw [wr1_ne (by decide), j1.1 118 (by decide) (by decide)]; exact a118
    · rw [wr1_ne (by decide)]; exact j3 h hh
end PLA
