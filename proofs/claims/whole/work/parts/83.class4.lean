/-! ===== the class's lay ===== -/
section LAYD
variable {h0 : Nat → pm_C} {B : Nat} {D : Nat → pd} {hi z : Nat} {s : mst} {N n L Y P : Nat} {A : AP}
theorem ar_fx {k m : Nat} (hf : FX D hi) (hk : k < 130) (hd : D k = .inl (0, m)) (hm : m < 2 ^ 31) : AR D hi k m := ⟨fx_lt hf hk, hd, hm⟩
theorem lt7 (hf : FX D hi) : LT D hi 7 := ⟨fx_lt hf (by decide), fx_7 hf, ar_fx hf (by decide) (fx_8 hf) (by decide), ar_fx hf (by decide) (fx_9 hf) (by decide), ar_fx hf (by decide) (fx_10 hf) (by decide), ar_fx hf (by decide) (fx_11 hf) (by decide)⟩
theorem w6_9 (hf : FX D hi) {q : Nat} (hq : q < 2 ^ 31) {C : String} : wF (mkM h0 B D hi z s) (B + 6) 9 9 (.object C) (.ref (B + q)) = some (mkM h0 B D hi z (wr1 s 6 9 (nI q))) := wD_mk (fx_lt hf (by decide)) (fx_6 hf) (v := 0) rfl hq
theorem w6_10 (hf : FX D hi) {q : Nat} (hq : q < 2 ^ 31) {C : String} : wF (mkM h0 B D hi z s) (B + 6) 9 10 (.object C) (.ref (B + q)) = some (mkM h0 B D hi z (wr1 s 6 10 (nI q))) := wD_mk (fx_lt hf (by decide)) (fx_6 hf) (v := 0) rfl hq
/-- the wires of a WORLD (with one BREAK more, b) lie in the class's cells -/
def CW (D : Nat → pd) (hi : Nat) (s : mst) (A : AP) (w : Nat) (b : Nat × Nat) (P : Nat) : Prop := s.1 6 9 = nI P ∧ (∃ Y, s.1 6 10 = nI Y ∧ (Y = 7 ∨ Y = P + 10) ∧ LT D hi Y ∧ CL s Y (q_lw A w (q_ns A))) ∧ CO s (q_out A w) (q_in A w) ∧ CB s (q_nk A w b) 10 ∧ CT s (q_TT A w) 10
theorem c_without (hN : 100 ≤ N) (hf : FX D hi) (hp : PL D hi P) (hA : WF A) (h : CP s P A) (hP : P = 58 ∨ 130 ≤ P) {w U : Nat} (hU : U < 64) (hu : ∀ i, so U i ↔ q_und A w i) : ∃ s', F_Wires_layoutWithout N (mkM h0 B D hi z s) (B + 6) (B + P) (nI U) = some (some (B + 7), (mkM h0 B D hi z (s'))) ∧ Fm (fun q => 7 < q ∧ q ≤ 11) s s' ∧ CL s' 7 (q_lw A w (q_ns A)) := by
  have hc := hA.1
  unfold WFc at hc
  unfold F_Wires_layoutWithout
  rw [rcm_6 hf, if_pos rfl, rdm_6_0 hf]
  dsimp only [Option.bind_some]
  rw [pl_4 hp]
  dsimp only [Option.bind_some]
  obtain ⟨s1, e1, m1, l1⟩ := c_copy (N := N) (h0 := h0) (B := B) (z := z) (lt7 hf) (pl_T5 hp) (by omega) h.2.1.2.1
  rw [e1]
  dsimp only [Option.bind_some]
  refine Exists.elim (lpE (F := fun f i s => F_Wires_layoutWithout_13 N (B + 6) (B + P) (nI U) f (nI i) (mkM h0 B D hi z s)) (n := q_ns A) (I := fun i s' => Fm (fun q => 7 < q ∧ q ≤ 11) s s' ∧ CL s' 7 (q_lw A w i)) ?_ N 0 s1 (by omega) (by omega) ⟨m1, l1⟩) ?_
  · intro f i s' hi' ⟨i1, i2⟩
    have h' : CP s' P A := CP_fm h i1 (fun k h1 h2 => by omega)
    obtain ⟨t0, t1, t2⟩ := h'.2.2.1.2.2 i hi'
    have hcn := h'.2.2.1.1
    have at_ : ∀ (q : Nat), q < 5 → F_Ledger_at N (mkM h0 B D hi z (s')) (B + (P + 15)) (nI i) (nI q) = some (s'.1 (P + 15 + 1) (5 * i + q), (mkM h0 B D hi z (s'))) := fun q hq => c_at (pl_L15 hp) hcn (by omega) hi' hq
    have hst : F_Wires_layoutWithout_13 N (B + 6) (B + P) (nI U) (f + 1) (nI i) (mkM h0 B D hi z (s')) = if nI (U / 2 ^ i % 2) = 0 then ((F_Layout_work N (mkM h0 B D hi z (s')) (B + 7) (nI (q_ok A (q_nq A + i))) (nI (q_os A (q_nq A + i))) (nI (q_ow A (q_nq A + i)))).bind fun S28 => F_Wires_layoutWithout_13 N (B + 6) (B + P) (nI U) f (nI (i + 1)) S28) else F_Wires_layoutWithout_13 N (B + 6) (B + P) (nI U) f (nI (i + 1)) (mkM h0 B D hi z (s')) := by
      show B_Wires_layoutWithout_13 N (F_Wires_layoutWithout_13 N (B + 6) (B + P) (nI U) f) (B + 6) (B + P) (nI U) (nI i) (mkM h0 B D hi z (s')) = _
      unfold B_Wires_layoutWithout_13 F_Wires_layoutWithout_66
      rw [pl_6 hp]
      dsimp only [Option.bind_some]
      rw [c_size (pl_L15 hp), hcn]
      dsimp only [Option.bind_some]
      rw [if_neg (nI_ge hi' (by omega)), L_31, nI_shr (by omega) (by omega), L_1, nI_and1, rdm_6_0 hf]
      dsimp only [Option.bind_some]
      rw [L_0, pl_6 hp]
      dsimp only [Option.bind_some]
      rw [at_ 0 (by omega)]
      dsimp only [Option.bind_some]
      rw [pl_6 hp]
      dsimp only [Option.bind_some]
      rw [at_ 1 (by omega)]
      dsimp only [Option.bind_some]
      rw [pl_6 hp]
      dsimp only [Option.bind_some]
      rw [L_2, at_ 2 (by omega)]
      dsimp only [Option.bind_some]
      rw [t0, t1, t2, nI_add]
    by_cases hq : q_und A w i
    · refine ⟨s', ⟨i1, ?_⟩, hst.trans ?_⟩
      · unfold q_lw
        rw [if_pos hq]
        exact i2
      · have := (hu i).mpr hq
        unfold so at this
        rw [this, if_neg (by decide)]
    · obtain ⟨s2, e2, m2, l2⟩ := c_work (N := N) (h0 := h0) (B := B) (z := z) hA (show q_nq A + i < q_nq A + q_ns A by omega) (LV_lw hA w i (by omega)) (LX_lw hA w i (by omega)) (lt7 hf) i2
      refine ⟨s2, ⟨Fm_t i1 m2, ?_⟩, hst.trans ?_⟩
      · unfold q_lw
        rw [if_neg hq]
        exact l2
      · have h3 : U / 2 ^ i % 2 = 0 := by
          rcases bit01 U i with z | z
          · exact z
          · exact absurd ((hu i).mp z) hq
        rw [h3, if_pos (by decide), e2]
        rfl
  · intro f ⟨s', ⟨i1, i2⟩, e⟩
    have h' : CP s' P A := CP_fm h i1 (fun k h1 h2 => by omega)
    refine ⟨s', Eq.trans e ?_, i1, i2⟩
    show B_Wires_layoutWithout_13 N (F_Wires_layoutWithout_13 N (B + 6) (B + P) (nI U) f) (B + 6) (B + P) (nI U) (nI (q_ns A)) (mkM h0 B D hi z (s')) = _
    unfold B_Wires_layoutWithout_13 F_Wires_layoutWithout_72
    rw [pl_6 hp]
    dsimp only [Option.bind_some]
    rw [c_size (pl_L15 hp), h'.2.2.1.1]
    dsimp only [Option.bind_some]
    rw [if_pos (nI_le (Nat.le_refl _) (by omega)), rdm_6_0 hf]
    rfl
def KL (k : Nat) : Prop := k = 6 ∨ (8 ≤ k ∧ k ≤ 19)
theorem q_lw_0 {w : Nat} (h : ∀ i, ¬ q_und A w i) : ∀ i, q_lw A w i = q_lw A 0 i := by
  intro i
  induction i with
  | zero => rfl
  | succ i ih =>
    unfold q_lw
    have h0 : ¬ q_und A 0 i := by
      intro ⟨k, _, h2, _⟩
      unfold so at h2
      rw [Nat.zero_div] at h2
      omega
    rw [if_neg (h i), if_neg h0, ih]
theorem c_lay (hN : 100 ≤ N) (hf : FX D hi) (hp : PL D hi P) (hA : WF A) (h : CP s P A) (hP : P = 58 ∨ 130 ≤ P) (hPb : P + 30 < 2 ^ 31) {w : Nat} (hw : w < 1024) : ∃ s', F_Wires_lay N (mkM h0 B D hi z s) (B + 6) (B + P) (nI w) = some (mkM h0 B D hi z (s')) ∧ Fm KL s s' ∧ CW D hi s' A w (0, 0) P := by
  have hc := hA.1
  unfold WFc at hc
  have r14 : AR D hi 14 56 := ar_fx hf (by decide) (fx_14 hf) (by decide)
  have r12 : AR D hi 12 56 := ar_fx hf (by decide) (fx_12 hf) (by decide)
  have r13 : AR D hi 13 56 := ar_fx hf (by decide) (fx_13 hf) (by decide)
  unfold F_Wires_lay
  rw [rcm_6 hf, if_pos rfl, w6_9 hf (by omega), Option.bind_some, wrm_6_11 hf, Option.bind_some, wrm_6_12 hf, Option.bind_some, rdm_6_3 hf, wrI_1, wrI_1]
  dsimp only [Option.bind_some]
  generalize hs0 : wr1 (wr1 (wr1 s 6 9 (nI P)) 6 11 0) 6 12 0 = s0
  have m0 : Fm KL s s0 := by
    rw [← hs0]
    exact Fm_t (Fm_t (Fm_w (Or.inl rfl)) (Fm_w (Or.inl rfl))) (Fm_w (Or.inl rfl))
  have v9 : s0.1 6 9 = nI P := by rw [← hs0]; simp only [wr1_at]; rfl
  have v11 : s0.1 6 11 = nI 0 := by rw [← hs0]; simp only [wr1_at]; rfl
  have v12 : s0.1 6 12 = nI 0 := by rw [← hs0]; simp only [wr1_at]; rfl
  obtain ⟨s1, e1, m1, l1⟩ := c_fill (N := N) (h0 := h0) (B := B) (z := z) (s := s0) (x := 0) (by omega) r14
  rw [e1, Option.bind_some]
  refine Exists.elim (lpE (F := fun f i s => F_Wires_lay_25 N (B + 6) (B + P) (nI w) f (nI i) (mkM h0 B D hi z s)) (n := 56) (I := fun i s' => Fm (fun q => q = 12 ∨ q = 13) s1 s' ∧ ∀ j, j < i → s'.1 12 j = nI j ∧ s'.1 13 j = nI j) ?_ N 0 s1 (by omega) (by omega) ⟨Fm_r, fun j hj => by omega⟩) ?_
  · intro f i s' hi' ⟨i1, i2⟩
    refine ⟨wr1 (wr1 s' 12 i (nI i)) 13 i (nI i), ⟨Fm_t i1 (Fm_t (Fm_w (Or.inl rfl)) (Fm_w (Or.inr rfl))), fun j hj => ?_⟩, ?_⟩
    · rw [wr1_ne (by decide), wr1_at, wr1_at, wr1_ne (by decide)]
      by_cases hji : j = i
      · rw [if_pos hji, if_pos hji, hji]
        exact ⟨rfl, rfl⟩
      · rw [if_neg hji, if_neg hji]
        exact i2 j (by omega)
    · show B_Wires_lay_25 N (F_Wires_lay_25 N (B + 6) (B + P) (nI w) f) (B + 6) (B + P) (nI w) (nI i) (mkM h0 B D hi z (s')) = _
      unfold B_Wires_lay_25
      rw [rdm_6_1 hf]
      dsimp only [Option.bind_some]
      rw [ar_n r12]
      dsimp only [Option.bind_some]
      rw [if_neg (nI_ge hi' (by decide)), rdm_6_2 hf]
      dsimp only [Option.bind_some]
      rw [ar_n r13]
      dsimp only [Option.bind_some]
      rw [if_neg (nI_ge hi' (by decide)), ar_w r12 hi']
      dsimp only [Option.bind_some]
      rw [rdm_6_2 hf]
      dsimp only [Option.bind_some]
      rw [ar_w r13 hi']
      dsimp only [Option.bind_some]
      rw [nI_1]
  · intro f ⟨s2, ⟨m2, i2⟩, e2⟩
    have hend : F_Wires_lay_25 N (B + 6) (B + P) (nI w) (f + 1) (nI 56) (mkM h0 B D hi z (s2)) = F_Wires_lay_68 N (B + 6) (B + P) (nI w) N (nI 0) (nI 0) (mkM h0 B D hi z (s2)) := by
      show B_Wires_lay_25 N (F_Wires_lay_25 N (B + 6) (B + P) (nI w) f) (B + 6) (B + P) (nI w) (nI 56) (mkM h0 B D hi z (s2)) = _
      unfold B_Wires_lay_25 F_Wires_lay_63
      rw [rdm_6_1 hf]
      dsimp only [Option.bind_some]
      rw [ar_n r12]
      dsimp only [Option.bind_some]
      rw [if_pos (nI_le (Nat.le_refl _) (by decide)), L_0]
    have m02 : Fm KL s s2 := Fm_t m0 (Fm_t (Fm_m m1 (fun q hq => by unfold KL; omega)) (Fm_m m2 (fun q hq => by unfold KL; omega)))
    have u6 : s2.1 6 = s0.1 6 := by rw [m2.1 6 (by omega), m1.1 6 (by omega)]
    have l0 : LK A w 0 0 s2 := by
      refine ⟨fun u hu => i2 u hu, ⟨⟨0, fun _ => 0, fun _ => 0, by omega, by rw [u6]; exact v11, fun i hi' => by omega, fun u d => rfl⟩, fun u hu => ?_⟩, ⟨0, fun _ => 0, fun _ => 0, fun _ => 0, by omega, by rw [u6]; exact v12, fun i hi' => by omega, fun a c d => ⟨fun ⟨k', hk', _⟩ => by omega, fun ⟨k', hk', _⟩ => by omega⟩⟩, by omega, fun i => ⟨fun hi' => ?_, fun ⟨k', hk', _⟩ => by omega⟩⟩
      · rw [m2.1 14 (by omega), l1 u hu]
        rfl
      · unfold so at hi'
        rw [Nat.zero_div] at hi'
        omega
    refine Exists.elim (lpE (F := fun f k (q : Int32 × mst) => F_Wires_lay_68 N (B + 6) (B + P) (nI w) f q.1 (nI k) (mkM h0 B D hi z (q.2))) (n := q_nt A) (I := fun k q => ∃ U, q.1 = nI U ∧ LK A w k U q.2 ∧ Fm KL s q.2 ∧ q.2.1 6 9 = nI P) ?_ N 0 (nI 0, s2) (by omega) (by omega) ⟨0, rfl, l0, m02, by rw [u6]; exact v9⟩) ?_
    · intro f' k ⟨q1, q⟩ hk ⟨U, i3, i4, i5, i6⟩
      dsimp only at i3 i4 i5 i6 ⊢
      subst i3
      have h' : CP q P A := CP_fm h i5 (fun k h1 h2 => by unfold KL; omega)
      have hst : F_Wires_lay_68 N (B + 6) (B + P) (nI w) (f' + 1) (nI U) (nI k) (mkM h0 B D hi z (q)) = if nI (w / 2 ^ k % 2) = 0 then F_Wires_lay_68 N (B + 6) (B + P) (nI w) f' (nI U) (nI (k + 1)) (mkM h0 B D hi z (q)) else (F_Wires_befall N (mkM h0 B D hi z (q)) (B + 6) (B + (P + 17)) (nI k)).bind fun (v19, S18) => F_Wires_lay_68 N (B + 6) (B + P) (nI w) f' (nI U ||| v19) (nI (k + 1)) S18 := by
        show B_Wires_lay_68 N (F_Wires_lay_68 N (B + 6) (B + P) (nI w) f') (B + 6) (B + P) (nI w) (nI U) (nI k) (mkM h0 B D hi z (q)) = _
        unfold B_Wires_lay_68 F_Wires_lay_102
        rw [pl_7 hp]
        dsimp only [Option.bind_some]
        rw [c_size (pl_L17 hp), h'.2.2.2.1.1]
        dsimp only [Option.bind_some]
        rw [if_neg (nI_ge hk (by omega)), L_31, nI_shr (by omega) (by omega), L_1, nI_and1, pl_7 hp]
        dsimp only [Option.bind_some]
        simp only [nI_add]
      by_cases hs : so w k
      · obtain ⟨V, s', e3, g1, g2, g3⟩ := c_befall (N := N) (h0 := h0) (B := B) (z := z) hf hp hA h' hk hs i4 hP
        refine ⟨(nI (U ||| V), s'), ⟨U ||| V, rfl, g1, Fm_t i5 (Fm_m g2 (fun q hq => by unfold KL; unfold KW at hq; omega)), by rw [g3 9 (by decide) (by decide)]; exact i6⟩, hst.trans ?_⟩
        rw [show w / 2 ^ k % 2 = 1 from hs, if_neg (by decide), e3]
        dsimp only [Option.bind_some]
        rw [nI_or]
      · refine ⟨(nI U, q), ⟨U, rfl, LK_skip i4 (Or.inl hs), i5, i6⟩, hst.trans ?_⟩
        have : w / 2 ^ k % 2 = 0 := (bit01 w k).resolve_right hs
        rw [this, if_pos (by decide)]
    · intro f' ⟨⟨q1, q⟩, ⟨U, i3, i4, i5, i6⟩, e3⟩
      dsimp only at i3 i4 i5 i6 e3
      subst i3
      have h' : CP q P A := CP_fm h i5 (fun k h1 h2 => by unfold KL; omega)
      obtain ⟨ka, kb, kc, kd, ke⟩ := i4
      have hst : F_Wires_lay_68 N (B + 6) (B + P) (nI w) (f' + 1) (nI U) (nI (q_nt A)) (mkM h0 B D hi z (q)) = F_Wires_lay_108 N (B + 6) (B + P) (nI U) (mkM h0 B D hi z (q)) := by
        show B_Wires_lay_68 N (F_Wires_lay_68 N (B + 6) (B + P) (nI w) f') (B + 6) (B + P) (nI w) (nI U) (nI (q_nt A)) (mkM h0 B D hi z (q)) = _
        unfold B_Wires_lay_68
        rw [pl_7 hp]
        dsimp only [Option.bind_some]
        rw [c_size (pl_L17 hp), h'.2.2.2.1.1]
        dsimp only [Option.bind_some]
        rw [if_pos (nI_le (Nat.le_refl _) (by omega))]
      have hfin : ∀ (Y : Nat) (s3 : mst), (Y = 7 ∨ Y = P + 10) → LT D hi Y → CL s3 Y (q_lw A w (q_ns A)) → Fm (fun k => 8 ≤ k ∧ k ≤ 11) q s3 → ∃ s', F_Wires_lay_126_2 N (B + Y) (B + 6) (mkM h0 B D hi z (s3)) = some (mkM h0 B D hi z (s')) ∧ Fm KL s s' ∧ CW D hi s' A w (0, 0) P := by
        intro Y s3 hY hT hCL hm3
        refine ⟨wr1 s3 6 10 (nI Y), ?_, Fm_t i5 (Fm_t (Fm_m hm3 (fun k hk => by unfold KL; omega)) (Fm_w (Or.inl rfl))), ?_, ⟨Y, ?_, hY, hT, ?_⟩, ?_, ?_, ?_⟩
        · unfold F_Wires_lay_126_2
          rw [w6_10 hf (by omega)]
          rfl
        · rw [wr1_at, if_neg (by decide), hm3.1 6 (by omega)]; exact i6
        · rw [wr1_at, if_pos rfl]
        · exact CL_fm hCL (Fm_w (K := fun k => k = 6) rfl) ⟨by omega, by omega, by omega, by omega⟩
        · exact CO_fm (CO_fm ka hm3 ⟨by omega, by omega⟩) (Fm_w (K := fun k => k = 6) rfl) ⟨by omega, by omega⟩
        · refine CB_m (CB_eq kb ?_ ?_ ?_ ?_) (by omega) (fun u d => ?_)
          · rw [wr1_at, if_neg (by decide), hm3.1 6 (by omega)]
          · rw [wr1_ne (by decide), hm3.1 14 (by omega)]
          · rw [wr1_ne (by decide), hm3.1 15 (by omega)]
          · rw [wr1_ne (by decide), hm3.1 16 (by omega)]
          · unfold q_nk
            rw [if_neg (by omega), Nat.zero_add]
        · refine CT_m (CT_eq kc ?_ ?_ ?_ ?_) (by omega) (fun a c d => Iff.rfl)
          · rw [wr1_at, if_neg (by decide), hm3.1 6 (by omega)]
          · rw [wr1_ne (by decide), hm3.1 17 (by omega)]
          · rw [wr1_ne (by decide), hm3.1 18 (by omega)]
          · rw [wr1_ne (by decide), hm3.1 19 (by omega)]
      have hgo : ∃ s', F_Wires_lay_108 N (B + 6) (B + P) (nI U) (mkM h0 B D hi z (q)) = some (mkM h0 B D hi z (s')) ∧ Fm KL s s' ∧ CW D hi s' A w (0, 0) P := by
        unfold F_Wires_lay_108
        by_cases hU : U = 0
        · rw [if_pos (by rw [hU]; rfl), pl_5 hp]
          dsimp only [Option.bind_some]
          have hno : ∀ i, ¬ q_und A w i := by
            intro i hi'
            have := (ke i).mpr hi'
            unfold so at this
            rw [hU, Nat.zero_div] at this
            omega
          refine hfin (P + 10) q (Or.inr rfl) (pl_T10 hp) ?_ Fm_r
          rw [q_lw_0 hno]
          exact h'.2.1.2.2
        · rw [if_neg (nI_ne0 (by omega) (by omega))]
          obtain ⟨s3, e4, m4, l4⟩ := c_without (h0 := h0) (B := B) (z := z) hN hf hp hA h' hP kd ke
          rw [e4]
          dsimp only [Option.bind_some]
          exact hfin 7 s3 (Or.inl rfl) (lt7 hf) l4 (Fm_m m4 (fun k hk => by omega))
      obtain ⟨s', g1, g2, g3⟩ := hgo
      exact ⟨s', (e2.trans (hend.trans (e3.trans (hst.trans g1)))), g2, g3⟩
end LAYD
