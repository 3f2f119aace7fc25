/-! ===== DISTANCE: the class ===== -/
theorem so_0 {k : Nat} : ¬ so 0 k := by
  unfold so
  rw [Nat.zero_div]
  decide
theorem q_cn_0w {A : AP} {u d : Nat} : ∀ k, q_cn A 0 u d k = 0 := by
  intro k
  induction k with
  | zero => rfl
  | succ k ih =>
    simp only [q_cn]
    rw [ih, if_neg (fun h => so_0 h.1.1)]
theorem q_ct_ge {bw bm : Nat → Nat} {u d i : Nat} : ∀ n, i < n → bw i = u → bm i ≤ d → 1 ≤ q_ct bw bm u d n := by
  intro n
  induction n with
  | zero => intro h; omega
  | succ n ih =>
    intro h h1 h2
    simp only [q_ct]
    by_cases c : i = n
    · rw [← c, if_pos ⟨h1, h2⟩]; omega
    · have := ih (by omega) h1 h2
      omega
theorem CB_0 {s : mst} {f : Nat → Nat → Nat} {m : Nat} (h : CB s f m) (h0 : ∀ u d, f u d = 0) : CB s f 0 := by
  obtain ⟨⟨n, bw, bm, h1, h2, h3, h4⟩, h5⟩ := h
  have hn : n = 0 := by
    apply Classical.byContradiction
    intro hh
    obtain ⟨_, _, a, b⟩ := h3 0 (by omega)
    have := q_ct_ge (bw := bw) (bm := bm) (u := bw 0) (d := 99) (i := 0) n (by omega) rfl b
    rw [h4, h0] at this
    omega
  exact ⟨⟨n, bw, bm, by omega, h2, h3, h4⟩, h5⟩
section DSC
variable {h0 : Nat → pm_C} {B : Nat} {D : Nat → pd} {hi z : Nat} {s : mst} {N P : Nat} {A : AP}
theorem c_explains (hN : 2000 ≤ N) (hf : FX D hi) (hp : PL D hi P) (hA : WF A) (hcp : CP s P A) (hP : P = 58 ∨ 130 ≤ P) (hPb : P + 30 < 2 ^ 31) {u d : Nat} {p3 : Int32} (hu : q_st A u) (hd : d ≤ q_ln A (u / 8)) : ∃ r s', F_Bench_explains N (mkM h0 B D hi z s) (B + 5) (B + P) (nI u) (nI d) p3 = some (r, (mkM h0 B D hi z (s'))) ∧ Fm (fun q => 6 ≤ q ∧ q ≤ 51) s s' ∧ ((r = 1 ∧ q_xp A u d p3) ∨ (r = 0 ∧ ¬ q_xp A u d p3)) := by
  have hc := hA.1
  unfold WFc at hc
  have hul := q_st_lt hA hu
  have hxx := hA.2.1 (u / 8) hu.1
  have hG : GW A 0 (u + 1, d) 0 := ⟨hA, by omega, by omega, Or.inr ⟨rfl, by rw [Nat.add_sub_cancel]; exact hu, by dsimp only; omega⟩⟩
  have hb : GB A (u + 1, d) := Or.inr (by dsimp only; rw [Nat.add_sub_cancel]; exact hd)
  obtain ⟨s1, e1, m1, w1⟩ := c_lay (N := N) (h0 := h0) (B := B) (z := z) (w := 0) (by omega) hf hp hA hcp hP hPb (by omega)
  obtain ⟨q1, ⟨Y, y1, y2, y3, y4⟩, q3, q4, q5⟩ := w1
  have q4' : CB s1 (q_nk A 0 (0, 0)) 0 := CB_0 q4 (fun u' d' => by unfold q_nk; rw [q_cn_0w, if_neg (fun h => absurd h.1 (by dsimp only; omega))])
  obtain ⟨s2, e2, m2, j2, b2⟩ := c_cut (N := N) (h0 := h0) (B := B) (z := z) hf q4' (by omega) hul.1 (show d ≤ 99 by omega)
  have W2 : CW D hi s2 A 0 (u + 1, d) P := by
    refine ⟨by rw [j2 9 (by decide)]; exact q1, ⟨Y, by rw [j2 10 (by decide)]; exact y1, y2, y3, CL_fm y4 m2 ⟨by omega, by omega, by omega, by omega⟩⟩, CO_fm q3 m2 ⟨by omega, by omega⟩, CB_m b2 (by omega) (fun u' d' => ?_), ?_⟩
    · unfold q_nk
      rw [q_cn_0w, if_neg (fun h => absurd h.1 (by dsimp only; omega)), Nat.zero_add, Nat.add_zero]
      by_cases c : u' = u ∧ d ≤ d'
      · rw [if_pos c, if_pos ⟨by dsimp only; omega, c.2⟩]
      · rw [if_neg c, if_neg (fun h => c ⟨by have := h.1; dsimp only at this; omega, h.2⟩)]
    · unfold CT
      rw [m2.1 17 (by omega), m2.1 18 (by omega), m2.1 19 (by omega), j2 12 (by decide)]
      exact q5
  have m12 : Fm (fun q => 6 ≤ q ∧ q ≤ 51) s s2 := Fm_t (Fm_m m1 (fun q hq => by unfold KL at hq; omega)) (Fm_m m2 (fun q hq => by omega))
  unfold F_Bench_explains
  rw [rcm_5 hf, if_pos rfl, rdm_5_0 hf]
  dsimp only [Option.bind_some]
  rw [L_0, e1]
  dsimp only [Option.bind_some]
  rw [rdm_5_0 hf]
  dsimp only [Option.bind_some]
  rw [e2]
  dsimp only [Option.bind_some]
  refine Exists.elim (lpQ (F := fun f k s => F_Bench_explains_21 N (B + 5) (B + P) p3 f (nI k) (mkM h0 B D hi z s)) (n := q_nr A) (I := fun k s' => Fm (fun q => 47 ≤ q ∧ q ≤ 51) s2 s' ∧ ∀ k', k' < k → q_rk A u d p3 k') (Q := fun r => ∃ s', r.2 = (mkM h0 B D hi z (s')) ∧ Fm (fun q => 47 ≤ q ∧ q ≤ 51) s2 s' ∧ ((r.1 = 1 ∧ q_xp A u d p3) ∨ (r.1 = 0 ∧ ¬ q_xp A u d p3))) ?_ ?_ N 0 s2 (Nat.zero_le _) (by omega) ⟨Fm_r, fun k' h => by omega⟩) ?_
  · intro f k s3 hk ⟨i1, i2⟩
    have m3 : Fm (fun q => 6 ≤ q ∧ q ≤ 51) s s3 := Fm_t m12 (Fm_m i1 (fun q hq => by omega))
    have C3 : CP s3 P A := CP_fm hcp m3 (fun q h1 h2 => by omega)
    have W3 : CW D hi s3 A 0 (u + 1, d) P := CW_fm W2 i1 hP (fun q hq => by omega)
    obtain ⟨w1, w2, w3⟩ := hA.2.2.2.2.2.2.1 k hk
    have hnr := C3.2.2.2.2.2.1.1
    obtain ⟨r0, r1, r2⟩ := C3.2.2.2.2.2.1.2.2 k hk
    have hcn := C3.2.2.2.2.1.1
    obtain ⟨t0, t1, t2, t3, t4⟩ := C3.2.2.2.2.1.2.2 (q_rt A k) w1
    have hek := (hA.2.2.2.2.2.1 (q_rt A k) w1).1
    obtain ⟨v, s4, f1, f2, f3⟩ := c_tell (N := N) (h0 := h0) (B := B) (z := z) (wet := 0) (by omega) hf hp hG hb hP hPb C3 W3 w1
    have hvt := q_tw_eq f3
    have hun : F_Bench_explains_21 N (B + 5) (B + P) p3 (f + 1) (nI k) (mkM h0 B D hi z (s3)) = if nI (q_ek A (q_rt A k)) = 1 then (if nI (q_rw A k) = 0 then (if q_df (q_rv A k) v ≤ p3 then F_Bench_explains_21 N (B + 5) (B + P) p3 f (nI (k + 1)) (mkM h0 B D hi z (s4)) else some (0, (mkM h0 B D hi z (s4)))) else F_Bench_explains_21 N (B + 5) (B + P) p3 f (nI (k + 1)) (mkM h0 B D hi z (s3))) else F_Bench_explains_21 N (B + 5) (B + P) p3 f (nI (k + 1)) (mkM h0 B D hi z (s3)) := by
      show B_Bench_explains_21 N (F_Bench_explains_21 N (B + 5) (B + P) p3 f) (B + 5) (B + P) p3 (nI k) (mkM h0 B D hi z (s3)) = _
      unfold B_Bench_explains_21 F_Bench_explains_76 F_Bench_explains_77 F_Bench_explains_117 F_Bench_explains_115
      rw [pl_9 hp]
      dsimp only [Option.bind_some]
      rw [c_size (pl_L21 hp), hnr]
      dsimp only [Option.bind_some]
      rw [if_neg (nI_ge hk (by omega)), pl_9 hp]
      dsimp only [Option.bind_some]
      rw [L_0, c_at (pl_L21 hp) hnr (by omega) hk (by omega), r0]
      dsimp only [Option.bind_some]
      rw [pl_8 hp]
      dsimp only [Option.bind_some]
      rw [c_at (pl_L19 hp) hcn (by omega) w1 (by omega), t0]
      dsimp only [Option.bind_some]
      rw [pl_9 hp]
      dsimp only [Option.bind_some]
      rw [L_1, c_at (pl_L21 hp) hnr (by omega) hk (by omega), r1]
      dsimp only [Option.bind_some]
      rw [if_neg (show ¬ nI 1 = nI 0 by decide), if_pos (show nI 0 = nI 0 from rfl), pl_9 hp]
      dsimp only [Option.bind_some]
      rw [L_2, c_at (pl_L21 hp) hnr (by omega) hk (by omega), r2]
      dsimp only [Option.bind_some]
      rw [f1]
      dsimp only [Option.bind_some]
      unfold q_df
      rw [nI_add]
      rfl
    rw [hun]
    have stay : (q_rw A k ≠ 0 ∨ q_ek A (q_rt A k) ≠ 1) → ∀ k', k' < k + 1 → q_rk A u d p3 k' := by
      intro hh k' hk'
      by_cases e : k' = k
      · rw [e]
        intro h1 h2
        rcases hh with hh | hh
        · exact absurd h1 hh
        · exact absurd h2 hh
      · exact i2 k' (by omega)
    by_cases c2 : q_ek A (q_rt A k) = 1
    · rw [if_pos (show nI (q_ek A (q_rt A k)) = 1 by rw [c2]; rfl)]
      by_cases c1 : q_rw A k = 0
      · rw [if_pos (show nI (q_rw A k) = 0 by rw [c1]; rfl)]
        by_cases c3 : q_df (q_rv A k) v ≤ p3
        · rw [if_pos c3]
          refine Or.inl ⟨s4, ⟨Fm_t i1 f2, fun k' hk' => ?_⟩, rfl⟩
          by_cases e : k' = k
          · rw [e]; intro _ _; rw [hvt]; exact c3
          · exact i2 k' (by omega)
        · rw [if_neg c3]
          refine Or.inr ⟨(0, (mkM h0 B D hi z (s4))), ⟨s4, rfl, Fm_t i1 f2, Or.inr ⟨rfl, fun h => c3 ?_⟩⟩, rfl⟩
          have := h k hk c1 c2
          rw [hvt] at this
          exact this
      · rw [if_neg (show ¬ nI (q_rw A k) = 0 from nI_ne0 (by omega) (by omega))]
        exact Or.inl ⟨s3, ⟨i1, stay (Or.inl c1)⟩, rfl⟩
    · rw [if_neg (show ¬ nI (q_ek A (q_rt A k)) = 1 from fun h => c2 ((nI_eq (a := q_ek A (q_rt A k)) (b := 1) (by omega) (by omega)).mp h))]
      exact Or.inl ⟨s3, ⟨i1, stay (Or.inr c2)⟩, rfl⟩
  · intro f s3 ⟨i1, i2⟩
    have m3 : Fm (fun q => 6 ≤ q ∧ q ≤ 51) s s3 := Fm_t m12 (Fm_m i1 (fun q hq => by omega))
    have C3 : CP s3 P A := CP_fm hcp m3 (fun q h1 h2 => by omega)
    refine ⟨(1, (mkM h0 B D hi z (s3))), ⟨s3, rfl, i1, Or.inl ⟨rfl, i2⟩⟩, ?_⟩
    show B_Bench_explains_21 N (F_Bench_explains_21 N (B + 5) (B + P) p3 f) (B + 5) (B + P) p3 (nI (q_nr A)) (mkM h0 B D hi z (s3)) = _
    unfold B_Bench_explains_21 F_Bench_explains_123
    rw [pl_9 hp]
    dsimp only [Option.bind_some]
    rw [c_size (pl_L21 hp), C3.2.2.2.2.2.1.1]
    dsimp only [Option.bind_some]
    rw [if_pos (nI_le (Nat.le_refl _) (by omega))]
  · intro ⟨r1, r2⟩ ⟨⟨s', h1, h2, h3⟩, e⟩
    dsimp only at h1 h3
    subst h1
    exact ⟨r1, s', e, Fm_t m12 (Fm_m h2 (fun q hq => by omega)), h3⟩
theorem c_breakAt (hN : 2000 ≤ N) (hf : FX D hi) (hp : PL D hi P) (hA : WF A) (hcp : CP s P A) (hP : P = 58 ∨ 130 ≤ P) (hPb : P + 30 < 2 ^ 31) {u e : Nat} {p3 : Int32} (hu : q_st A u) (he : e ≤ 1) : ∃ s', F_Bench_breakAt N (mkM h0 B D hi z s) (B + 5) (B + P) (nI u) p3 (nI e) = some (cd (q_dist A u p3 e), (mkM h0 B D hi z (s'))) ∧ Fm (fun q => 6 ≤ q ∧ q ≤ 51) s s' := by
  have hc := hA.1
  unfold WFc at hc
  have hul := q_st_lt hA hu
  have hxx := hA.2.1 (u / 8) hu.1
  unfold F_Bench_breakAt
  rw [rcm_5 hf, if_pos rfl]
  refine Exists.elim (lpE (F := fun f d (q : Int32 × mst) => F_Bench_breakAt_6 N (B + 5) (B + P) (nI u) p3 (nI e) f q.1 (nI d) (mkM h0 B D hi z (q.2))) (n := q_ln A (u / 8) + 1) (I := fun d q => q.1 = cd (if e = 0 then q_f1 A u p3 d else q_f2 A u p3 d) ∧ Fm (fun q => 6 ≤ q ∧ q ≤ 51) s q.2) ?_ N 0 (-1, s) (Nat.zero_le _) (by omega) ⟨by unfold q_f1 q_f2; rw [ite_self, cd_0], Fm_r⟩) ?_
  · intro f d ⟨x5, s1⟩ hd ⟨i1, i2⟩
    dsimp only at i1 i2 ⊢
    have C1 : CP s1 P A := CP_fm hcp i2 (fun q h1 h2 => by omega)
    obtain ⟨r, s2, e1, e2, e3⟩ := c_explains (N := N) (h0 := h0) (B := B) (z := z) (p3 := p3) hN hf hp hA C1 hP hPb hu (show d ≤ q_ln A (u / 8) by omega)
    have hun : F_Bench_breakAt_6 N (B + 5) (B + P) (nI u) p3 (nI e) (f + 1) x5 (nI d) (mkM h0 B D hi z (s1)) = if x5 = -1 ∨ e ≠ 0 then (if r = 0 then F_Bench_breakAt_6 N (B + 5) (B + P) (nI u) p3 (nI e) f x5 (nI (d + 1)) (mkM h0 B D hi z (s2)) else F_Bench_breakAt_6 N (B + 5) (B + P) (nI u) p3 (nI e) f (nI d) (nI (d + 1)) (mkM h0 B D hi z (s2))) else F_Bench_breakAt_6 N (B + 5) (B + P) (nI u) p3 (nI e) f x5 (nI (d + 1)) (mkM h0 B D hi z (s1)) := by
      show B_Bench_breakAt_6 N (F_Bench_breakAt_6 N (B + 5) (B + P) (nI u) p3 (nI e) f) (B + 5) (B + P) (nI u) p3 (nI e) x5 (nI d) (mkM h0 B D hi z (s1)) = _
      unfold B_Bench_breakAt_6 F_Bench_breakAt_30 F_Bench_breakAt_46
      rw [c_cableOf (by omega)]
      dsimp only [Option.bind_some]
      rw [c_lengthOf hp C1 hA hu.1]
      dsimp only [Option.bind_some]
      rw [if_neg (nI_nlt (by omega) (by omega)), e1]
      dsimp only [Option.bind_some]
      rw [nI_1]
      by_cases c : x5 = -1
      · rw [if_pos c, if_pos (Or.inl c)]
      · rw [if_neg c]
        by_cases c' : e = 0
        · rw [if_pos (by rw [c']; rfl), if_neg (show ¬ (x5 = -1 ∨ e ≠ 0) from fun h => Or.elim h c (fun h2 => h2 c'))]
        · rw [if_neg (nI_ne0 (by omega) (by omega)), if_pos (Or.inr c')]
    rw [hun]
    have l1 := q_f1_le (A := A) (u := u) (p3 := p3) d
    obtain ⟨z1, z2⟩ := q_f1_s (A := A) (u := u) (d := d) (p3 := p3)
    obtain ⟨y1, y2⟩ := q_f2_s (A := A) (u := u) (d := d) (p3 := p3)
    by_cases he0 : e = 0
    · rw [if_pos he0] at i1
      by_cases c : q_f1 A u p3 d = 0
      · rw [if_pos (Or.inl (by rw [i1, c, cd_0]))]
        rcases e3 with ⟨rfl, hxp⟩ | ⟨rfl, hxp⟩
        · rw [if_neg i10]
          exact ⟨(nI d, s2), ⟨by rw [if_pos he0, (z2 c).1 hxp, cd_s], Fm_t i2 e2⟩, rfl⟩
        · rw [if_pos rfl]
          exact ⟨(x5, s2), ⟨by rw [if_pos he0, (z2 c).2 hxp, ← c]; exact i1, Fm_t i2 e2⟩, rfl⟩
      · rw [if_neg (show ¬ (x5 = -1 ∨ e ≠ 0) from fun h => by
          rcases h with h | h
          · rw [i1] at h; exact c ((cd_n1 (by omega)).mp h)
          · exact h he0)]
        exact ⟨(x5, s1), ⟨by rw [if_pos he0, z1 c]; exact i1, i2⟩, rfl⟩
    · rw [if_neg he0] at i1
      rw [if_pos (Or.inr he0)]
      rcases e3 with ⟨rfl, hxp⟩ | ⟨rfl, hxp⟩
      · rw [if_neg i10]
        exact ⟨(nI d, s2), ⟨by rw [if_neg he0, y1 hxp, cd_s], Fm_t i2 e2⟩, rfl⟩
      · rw [if_pos rfl]
        exact ⟨(x5, s2), ⟨by rw [if_neg he0, y2 hxp]; exact i1, Fm_t i2 e2⟩, rfl⟩
  · intro f ⟨⟨x5, s1⟩, ⟨i1, i2⟩, ee⟩
    dsimp only at i1 i2 ee
    have C1 : CP s1 P A := CP_fm hcp i2 (fun q h1 h2 => by omega)
    refine ⟨s1, Eq.trans ee ?_, i2⟩
    show B_Bench_breakAt_6 N (F_Bench_breakAt_6 N (B + 5) (B + P) (nI u) p3 (nI e) f) (B + 5) (B + P) (nI u) p3 (nI e) x5 (nI (q_ln A (u / 8) + 1)) (mkM h0 B D hi z (s1)) = _
    unfold B_Bench_breakAt_6 F_Bench_breakAt_52
    rw [c_cableOf (by omega)]
    dsimp only [Option.bind_some]
    rw [c_lengthOf hp C1 hA hu.1]
    dsimp only [Option.bind_some]
    rw [if_pos (nI_lt (by omega) (by omega)), i1]
    rfl
end DSC
