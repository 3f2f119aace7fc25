/-! ===== MOVES: the reference's start and end ===== -/
noncomputable def q_at (A : AP) (w x h : Nat) : Nat := q_ff (fun p => q_hg A w (8 * x + p)) (h + 1) 6
def q_us (A : AP) (w x p : Nat) : Prop := p < q_pr A x ∧ q_on A w (8 * x + p) = 0 ∧ q_fz A w (0, 0) 0 (8 * x + p)
noncomputable def q_m0 (A : AP) (w x : Nat) : MV := (q_at A w x, fun _ => 0, 0, fun _ => 0)
theorem q_at_iff {A : AP} (hA : WF A) {w x p h : Nat} (hp : p < 6) : q_hg A w (8 * x + p) = h + 1 ↔ q_at A w x h = p + 1 := by
  have hj := (LX_lw hA w (q_ns A) (Nat.le_refl _)).2.1
  constructor
  · intro e
    unfold q_at
    cases hv : q_ff (fun p => q_hg A w (8 * x + p)) (h + 1) 6 with
    | zero => exact absurd e ((q_ff_0 6).mp hv p hp)
    | succ v =>
      have h1 : q_hg A w (8 * x + v) = h + 1 := (q_ff_s hv).2.1
      have h2 : 8 * x + v = 8 * x + p := hj.2 (8 * x + v) (8 * x + p) (show q_hg A w (8 * x + v) ≠ 0 by omega) (h1.trans e.symm)
      rw [show v = p by omega]
  · intro e
    exact (q_ff_s e).2.1
section MVT
variable {N t x w : Nat} {s : mst} {A : AP}
theorem r_moves (hN : 1000 ≤ N) (ht : t < 6) (hG : GW A w (0, 0) 0) (hx : x < q_nc A) (hR : RP s t A) (hW : RW s t A w (0, 0) 0) {p3 : Int32} {K : Nat} (hK : K = 20) : ∃ s', G_M_moves_60 N (nI t) p3 (nI x) N 0 s = G_M_moves_197 N p3 s' ∧ Md [107, 109, 126, 127, 128] [57] s s' ∧ RV s' x (q_us A w x) (mrun (q_wt A) (q_us A w x) (q_m0 A w x) K) := by
  have hA := hG.1
  have hc := hA.1
  unfold WFc at hc
  have hxx := hA.2.1 x hx
  refine Exists.elim (lpE (F := fun f p s => G_M_moves_60 N (nI t) p3 (nI x) f (nI p) s) (n := 6) (I := fun p s' => Md [109, 126] [] s s' ∧ ∀ p', p' < p → (s'.1 126 p' = nI 1 ∧ q_us A w x p') ∨ (s'.1 126 p' = nI 0 ∧ ¬ q_us A w x p')) ?_ N 0 s (Nat.zero_le _) (by omega) ⟨Md_r, fun p' h => by omega⟩) ?_
  · intro f p s1 hp ⟨i1, i2⟩
    have R1 : RP s1 t A := RP_md hR i1 (by decide)
    have W1 : RW s1 t A w (0, 0) 0 := RW_md hW i1 (by decide) (by decide)
    have e1 := rp_pr R1 hx
    have e6 : s8 (6 * x + p) = 8 * x + p := by unfold s8; omega
    have e106 : s1.1 106 (6 * x + p) = cd (r6 (q_on A w (8 * x + p))) := by
      have := (W1.2.2.2.2.2.1 (6 * x + p) (by omega)).1
      rw [e6] at this
      exact this
    have hv := q_on_v hA (w := w) (u := 8 * x + p)
    have hle := r6_le hA hv
    have hr60 : r6 (q_on A w (8 * x + p)) = 0 ↔ q_on A w (8 * x + p) = 0 := by
      unfold r6
      constructor
      · intro h; split at h <;> omega
      · intro h; rw [if_pos h]
    have put : ∀ (s2 : mst) (v : Nat), Md [109, 126] [] s1 s2 → (∀ p', s2.1 126 p' = s1.1 126 p') → ((v = 1 ∧ q_us A w x p) ∨ (v = 0 ∧ ¬ q_us A w x p)) → Md [109, 126] [] s (wr1 s2 126 p (nI v)) ∧ ∀ p', p' < p + 1 → ((wr1 s2 126 p (nI v)).1 126 p' = nI 1 ∧ q_us A w x p') ∨ ((wr1 s2 126 p (nI v)).1 126 p' = nI 0 ∧ ¬ q_us A w x p') := by
      intro s2 v m2 k2 hh
      refine ⟨Md_t i1 (Md_t m2 (Md_w (by decide) (by decide))), fun p' hp' => ?_⟩
      rw [wr1_at]
      by_cases c : p' = p
      · rw [if_pos c, c]
        rcases hh with ⟨a, b⟩ | ⟨a, b⟩
        · exact Or.inl ⟨by rw [a], b⟩
        · exact Or.inr ⟨by rw [a], b⟩
      · rw [if_neg c, k2]
        exact i2 p' (by omega)
    have z0 : ∀ s2 : mst, stA 3 s2 126 6 (nI p) 0 = some (wr1 s2 126 p (nI 0)) := fun s2 => stZ_nI hp (by decide)
    have z1 : ∀ s2 : mst, stA 3 s2 126 6 (nI p) 1 = some (wr1 s2 126 p (nI 1)) := fun s2 => stZ_nI hp (by decide)
    have hst : G_M_moves_60 N (nI t) p3 (nI x) (f + 1) (nI p) s1 = GB_M_moves_60 N (G_M_moves_60 N (nI t) p3 (nI x) f) (nI t) p3 (nI x) (nI p) s1 := rfl
    rw [hst]
    unfold GB_M_moves_60 G_M_moves_124 G_M_moves_125
    rw [z0, L_6, if_neg (nI_ge hp (by omega)), L_7, nI_mul, nI_add, rdA_nI (by omega) (by decide), Option.bind_some, e1, nI_1]
    by_cases c0 : q_pr A x ≤ p
    · rw [if_pos (nI_le c0 (by omega)), Option.bind_some]
      exact ⟨wr1 s1 126 p (nI 0), put s1 0 Md_r (fun _ => rfl) (Or.inr ⟨rfl, fun z => by have := z.1; omega⟩), rfl⟩
    · rw [if_neg (nI_ge (by omega) (by omega)), nI_mul, nI_add, rdA_nI (by omega) (by decide), Option.bind_some, e106]
      by_cases c1 : q_on A w (8 * x + p) = 0
      · obtain ⟨vf, s2, f1, m2, fd⟩ := r_feeds (N := N) hN ht hG R1 W1 hx (show p < q_pr A x by omega)
        have hfz := q_fz_iff fd
        have m2' : Md [109, 126] [] s1 s2 := Md_m m2 (by decide) (by decide)
        have k2 : ∀ p', s2.1 126 p' = s1.1 126 p' := fun p' => by rw [m2.1 126 (by decide) (by decide)]
        rw [if_pos ((cd_n1 (by omega)).mpr (hr60.mpr c1)), f1, Option.bind_some]
        dsimp only
        by_cases c3 : vf = 0
        · rw [if_pos ((lN_z fd.1).mpr c3), z0, Option.bind_some]
          exact ⟨wr1 s2 126 p (nI 0), put s2 0 m2' k2 (Or.inr ⟨rfl, fun z => (hfz.mp z.2.2) c3⟩), rfl⟩
        · rw [if_neg (fun e => c3 ((lN_z fd.1).mp e)), z1, Option.bind_some]
          exact ⟨wr1 s2 126 p (nI 1), put s2 1 m2' k2 (Or.inl ⟨rfl, by omega, c1, hfz.mpr c3⟩), rfl⟩
      · rw [if_neg (fun e => c1 (hr60.mp ((cd_n1 (by omega)).mp e))), Option.bind_some]
        exact ⟨wr1 s1 126 p (nI 0), put s1 0 Md_r (fun _ => rfl) (Or.inr ⟨rfl, fun z => c1 z.2.1⟩), rfl⟩
  · intro f ⟨s1, ⟨i1, i2⟩, e⟩
    have hst : G_M_moves_60 N (nI t) p3 (nI x) (f + 1) (nI 6) s1 = G_M_moves_135 N p3 (nI x) N (nI 0) s1 := by
      show GB_M_moves_60 N (G_M_moves_60 N (nI t) p3 (nI x) f) (nI t) p3 (nI x) (nI 6) s1 = _
      unfold GB_M_moves_60 G_M_moves_132
      rw [L_6, if_pos (nI_le (Nat.le_refl _) (by decide))]
      rfl
    refine Exists.elim (lpE (F := fun f h s => G_M_moves_135 N p3 (nI x) f (nI h) s) (n := 10) (I := fun h s' => Md [127] [] s1 s' ∧ ∀ h', h' < h → s'.1 127 h' = nI 0) ?_ N 0 s1 (Nat.zero_le _) (by omega) ⟨Md_r, fun h' hh => by omega⟩) ?_
    · intro f h s2 hh ⟨j1, j2⟩
      have z0 : stA 3 s2 127 10 (nI h) 0 = some (wr1 s2 127 h (nI 0)) := stZ_nI hh (by decide)
      refine ⟨wr1 s2 127 h (nI 0), ⟨Md_t j1 (Md_w (by decide) (by decide)), fun h' hh' => ?_⟩, ?_⟩
      · rw [wr1_at]
        by_cases c : h' = h
        · rw [if_pos c]
        · rw [if_neg c]; exact j2 h' (by omega)
      · show GB_M_moves_135 N (G_M_moves_135 N p3 (nI x) f) p3 (nI x) (nI h) s2 = _
        unfold GB_M_moves_135
        rw [L_10, if_neg (nI_ge hh (by omega)), z0, Option.bind_some, nI_1]
    · intro f2 ⟨s2, ⟨j1, j2⟩, e2⟩
      have hst2 : G_M_moves_135 N p3 (nI x) (f2 + 1) (nI 10) s2 = G_M_moves_164 N p3 (nI x) N (nI 1) (wr1 s2 85 57 (nI 0)) := by
        show GB_M_moves_135 N (G_M_moves_135 N p3 (nI x) f2) p3 (nI x) (nI 10) s2 = _
        unfold GB_M_moves_135 G_M_moves_156
        rw [L_10, if_pos (nI_le (Nat.le_refl _) (by decide))]
        rfl
      have m3 : Md [107, 109, 126, 127, 128] [57] s (wr1 s2 85 57 (nI 0)) := Md_t (Md_m i1 (by decide) (by decide)) (Md_t (Md_m j1 (by decide) (by decide)) (Md_f (by decide)))
      have m4 : Md [109, 126, 127] [57] s (wr1 s2 85 57 (nI 0)) := Md_t (Md_m i1 (by decide) (by decide)) (Md_t (Md_m j1 (by decide) (by decide)) (Md_f (by decide)))
      have R3 : RP (wr1 s2 85 57 (nI 0)) t A := RP_md hR m3 (by decide)
      have W3 : RW (wr1 s2 85 57 (nI 0)) t A w (0, 0) 0 := RW_md hW m4 (by decide) (by decide)
      have V3 : RV (wr1 s2 85 57 (nI 0)) x (q_us A w x) (q_m0 A w x) := by
        refine ⟨fun h hh => q_ff_lt 6, fun p hp => ?_, fun h hh => ?_, fun p hp => ?_, ?_, fun j hj => ?_⟩
        · have e6 : s8 (6 * x + p) = 8 * x + p := by unfold s8; omega
          have e107 : (wr1 s2 85 57 (nI 0)).1 107 (6 * x + p) = cd (q_hg A w (8 * x + p)) := by
            have := (W3.2.2.2.2.2.1 (6 * x + p) (by omega)).2
            rw [e6] at this
            exact this
          refine ⟨q_hg A w (8 * x + p), (LV_lw hA w (q_ns A) (Nat.le_refl _) (8 * x + p)).2, e107, fun h hh => ?_⟩
          exact q_at_iff hA hp
        · refine ⟨?_, Nat.zero_le _⟩
          rw [wr1_ne (by decide)]
          exact j2 h hh
        · rw [wr1_ne (by decide), j1.1 126 (by decide) (by decide)]
          exact i2 p hp
        · rw [wr1_at, if_pos rfl]
          rfl
        · exact absurd hj (Nat.not_lt_zero j)
      obtain ⟨s', g1, g2, g3⟩ := r_moves164 (N := N) (p3 := p3) (K := K) (by omega) ht hA hx R3 W3.1 V3 (fun p hp => hp.1) rfl hK
      refine ⟨s', ?_, Md_t m3 (Md_m g2 (by decide) (by decide)), g3⟩
      refine Eq.trans e (Eq.trans hst (Eq.trans e2 (Eq.trans hst2 g1)))
end MVT
