/-! ===== the promises, one by one: the class answers as the reference ===== -/
def scK : List Nat := [106, 107, 108, 109, 110, 122, 123, 124, 126, 127, 128]
def scJ : List Nat := [0, 29, 30, 31, 32, 33, 34, 51, 52, 57]
section TOPS
variable {h0 : Nat → pm_C} {B : Nat} {D D2 : Nat → pd} {hi hi2 z : Nat} {s s2 : mst} {N np : Nat} {As : Nat → AP} {Ps Ps2 ow ow2 : Nat → Nat}
theorem INV_sc (h : INV D2 hi2 ow2 s2 np As Ps2) {s3 : mst} (hm : Me scK scJ s2 s3) : INV D2 hi2 ow2 s3 np As Ps2 := INV_ref h hm (by decide) (by decide) (by decide)
theorem Me_0 {s : mst} : Me scK scJ s (wrI s 85 0 0) := Me_of (Md_f (by decide))
theorem r_box_f {s : mst} {t : Nat} {A : AP} {p : Int32} (ht : t < 6) (hR : RP s t A) (hA : WF A) (h : ¬ okn (q_nb A) p) : ∃ r, (rdA s 87 7 (nI t)) = some r ∧ G_M_isIn N s p 0 (r - 1) = some (0, s) := by
  have hc := hA.1
  unfold WFc at hc
  refine ⟨nI (q_nb A), by rw [rdA_nI (by omega) (by decide), rp_nb hR], ?_⟩
  rw [r_isIn]
  rcases okn_not (show q_nb A < 2 ^ 31 by omega) h with c | c
  · rw [if_pos c]
  · by_cases d : p < 0
    · rw [if_pos d]
    · rw [if_neg d, if_pos ((nI_m1_lt (by omega)).mpr c)]
theorem r_box_t {s : mst} {t b : Nat} {A : AP} (ht : t < 6) (hR : RP s t A) (hA : WF A) (h : b < q_nb A) : ∃ r, (rdA s 87 7 (nI t)) = some r ∧ G_M_isIn N s (nI b) 0 (r - 1) = some (1, s) := by
  have hc := hA.1
  unfold WFc at hc
  refine ⟨nI (q_nb A), by rw [rdA_nI (by omega) (by decide), rp_nb hR], ?_⟩
  rw [r_isIn, if_neg (nI_pos (by omega)), if_neg (fun e => absurd ((nI_m1_lt (by omega)).mp e) (nI_ge h (by omega)))]
theorem t_walk {p0 p1 p2 : Int32} (hN : 2000 ≤ N) (h : INV D hi ow s np As Ps) : ∃ ans, F_BP_walk N (mkM h0 B D hi z s) (B + 0) p0 p1 p2 = some (ans, (mkM h0 B D hi z s)) ∧ ∀ D2 hi2 ow2 Ps2 s2, INV D2 hi2 ow2 s2 np As Ps2 → ∃ s3, G_M_walk N s2 p0 p1 p2 = some (ans, s3) ∧ Me scK scJ s2 s3 := by
  have h1 := h.1
  unfold F_BP_walk
  rw [rcm_0 h1, if_pos rfl]
  by_cases c0 : okn np p0
  · obtain ⟨t, ht, rfl⟩ := c0
    obtain ⟨a1, a2, a3, a4, a5, a6, a7, a8, a9⟩ := h.2.2.2.2.2.2.2.2 t ht
    have ht6 : t < 6 := by have := h.2.2.2.2.1; omega
    rw [c_planAt_t h ht]
    dsimp only [Option.bind_some]
    have ref : ∀ D2 hi2 ow2 Ps2 s2, INV D2 hi2 ow2 s2 np As Ps2 → INV D2 hi2 ow2 (wrI s2 85 0 0) np As Ps2 ∧ RP (wrI s2 85 0 0) t (As t) ∧ G_M_isPlan N (wrI s2 85 0 0) (nI t) = some (1, wrI s2 85 0 0) := by
      intro D2 hi2 ow2 Ps2 s2 hI
      have hI' := INV_sc hI (Me_0 (s := s2))
      exact ⟨hI', ((INV_rps hI').2.2 t ht).2, r_isPlan_t hI'.2.2.2.2.2.1 hI'.2.2.2.2.1 ht⟩
    by_cases c1 : okn (q_nb (As t)) p1
    · obtain ⟨a, ha, rfl⟩ := c1
      by_cases c2 : okn (q_nb (As t)) p2
      · obtain ⟨b, hb, rfl⟩ := c2
        refine ⟨cd (q_way (As t) a b), by rw [c_way_t (by omega) a1 a6 a5 ha hb]; rfl, fun D2 hi2 ow2 Ps2 s2 hI => ?_⟩
        obtain ⟨i1, i2, i3⟩ := ref D2 hi2 ow2 Ps2 s2 hI
        obtain ⟨r1, e1, e2⟩ := r_box_t (N := N) ht6 i2 a5 ha
        obtain ⟨r2, e3, e4⟩ := r_box_t (N := N) ht6 i2 a5 hb
        refine ⟨wrI s2 85 0 0, ?_, Me_0⟩
        unfold G_M_walk G_M_walk_56
        rw [i3, Option.bind_some]
        dsimp only
        rw [if_neg i10, e1, Option.bind_some, e2, Option.bind_some]
        dsimp only
        rw [if_neg i10, e3, Option.bind_some, e4, Option.bind_some]
        dsimp only
        rw [if_neg i10, r_walkOf (by omega) ht6 a5 i2 ha hb]
        rfl
      · refine ⟨-1, by rw [c_way_2 a1 a6 a5 ha c2]; rfl, fun D2 hi2 ow2 Ps2 s2 hI => ?_⟩
        obtain ⟨i1, i2, i3⟩ := ref D2 hi2 ow2 Ps2 s2 hI
        obtain ⟨r1, e1, e2⟩ := r_box_t (N := N) ht6 i2 a5 ha
        obtain ⟨r2, e3, e4⟩ := r_box_f (N := N) ht6 i2 a5 c2
        refine ⟨wrI s2 85 0 0, ?_, Me_0⟩
        unfold G_M_walk G_M_walk_55 G_M_walk_56
        rw [i3, Option.bind_some]
        dsimp only
        rw [if_neg i10, e1, Option.bind_some, e2, Option.bind_some]
        dsimp only
        rw [if_neg i10, e3, Option.bind_some, e4, Option.bind_some]
        dsimp only
        rw [if_pos rfl]
    · refine ⟨-1, by rw [c_way_1 a1 a6 a5 c1]; rfl, fun D2 hi2 ow2 Ps2 s2 hI => ?_⟩
      obtain ⟨i1, i2, i3⟩ := ref D2 hi2 ow2 Ps2 s2 hI
      obtain ⟨r1, e1, e2⟩ := r_box_f (N := N) ht6 i2 a5 c1
      refine ⟨wrI s2 85 0 0, ?_, Me_0⟩
      unfold G_M_walk G_M_walk_55 G_M_walk_56
      rw [i3, Option.bind_some]
      dsimp only
      rw [if_neg i10, e1, Option.bind_some, e2, Option.bind_some]
      dsimp only
      rw [if_pos rfl]
  · rw [c_planAt_f h c0]
    refine ⟨-1, rfl, fun D2 hi2 ow2 Ps2 s2 hI => ?_⟩
    have hI' := INV_sc hI (Me_0 (s := s2))
    refine ⟨wrI s2 85 0 0, ?_, Me_0⟩
    unfold G_M_walk G_M_walk_55 G_M_walk_56
    rw [r_isPlan_f hI'.2.2.2.2.2.1 hI'.2.2.2.2.1 c0, Option.bind_some]
    dsimp only
    rw [if_pos rfl]
end TOPS
