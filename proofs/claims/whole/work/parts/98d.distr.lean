/-! ===== DISTANCE: the reference ===== -/
def q_df (a v : Nat) : Int32 := if 0 ≤ ((nI a / 4) - (nI v / 4)) then ((nI a / 4) - (nI v / 4)) else 0 - ((nI a / 4) - (nI v / 4))
noncomputable def q_tw (A : AP) (k u d : Nat) : Nat := Classical.epsilon (fun v => WD A (q_rt A k) 0 (u + 1, d) 0 v)
theorem q_tw_eq {A : AP} {k u d v : Nat} (h : WD A (q_rt A k) 0 (u + 1, d) 0 v) : q_tw A k u d = v := WD_u (Classical.epsilon_spec ⟨v, h⟩) h
/-- a READING bears with a BREAK at d metres of u -/
def q_rk (A : AP) (u d : Nat) (p3 : Int32) (k : Nat) : Prop := q_rw A k = 0 → q_ek A (q_rt A k) = 1 → q_df (q_rv A k) (q_tw A k u d) ≤ p3
def q_xp (A : AP) (u d : Nat) (p3 : Int32) : Prop := ∀ k, k < q_nr A → q_rk A u d p3 k
noncomputable def q_f1 (A : AP) (u : Nat) (p3 : Int32) : Nat → Nat
  | 0 => 0
  | d + 1 => if q_f1 A u p3 d ≠ 0 then q_f1 A u p3 d else @ite _ (q_xp A u d p3) (Classical.propDecidable _) (d + 1) 0
noncomputable def q_f2 (A : AP) (u : Nat) (p3 : Int32) : Nat → Nat
  | 0 => 0
  | d + 1 => @ite _ (q_xp A u d p3) (Classical.propDecidable _) (d + 1) (q_f2 A u p3 d)
theorem q_f1_le {A : AP} {u : Nat} {p3 : Int32} : ∀ d, q_f1 A u p3 d ≤ d := by
  intro d
  induction d with
  | zero => exact Nat.le_refl _
  | succ d ih =>
    unfold q_f1
    split
    · omega
    · split <;> omega
theorem q_f2_le {A : AP} {u : Nat} {p3 : Int32} : ∀ d, q_f2 A u p3 d ≤ d := by
  intro d
  induction d with
  | zero => exact Nat.le_refl _
  | succ d ih =>
    unfold q_f2
    split <;> omega
theorem q_f1_s {A : AP} {u d : Nat} {p3 : Int32} : (q_f1 A u p3 d ≠ 0 → q_f1 A u p3 (d + 1) = q_f1 A u p3 d) ∧ (q_f1 A u p3 d = 0 → (q_xp A u d p3 → q_f1 A u p3 (d + 1) = d + 1) ∧ (¬ q_xp A u d p3 → q_f1 A u p3 (d + 1) = 0)) := by
  refine ⟨fun h => ?_, fun h => ⟨fun g => ?_, fun g => ?_⟩⟩
  · conv => lhs; unfold q_f1
    rw [if_pos h]
  · conv => lhs; unfold q_f1
    rw [if_neg (fun z => z h), if_pos g]
  · conv => lhs; unfold q_f1
    rw [if_neg (fun z => z h), if_neg g]
theorem q_f2_s {A : AP} {u d : Nat} {p3 : Int32} : (q_xp A u d p3 → q_f2 A u p3 (d + 1) = d + 1) ∧ (¬ q_xp A u d p3 → q_f2 A u p3 (d + 1) = q_f2 A u p3 d) := by
  refine ⟨fun g => ?_, fun g => ?_⟩
  · conv => lhs; unfold q_f2
    rw [if_pos g]
  · conv => lhs; unfold q_f2
    rw [if_neg g]
noncomputable def q_dist (A : AP) (u : Nat) (p3 : Int32) (e : Nat) : Nat := if e = 0 then q_f1 A u p3 (q_ln A (u / 8) + 1) else q_f2 A u p3 (q_ln A (u / 8) + 1)
theorem i32_nle {x y : Int32} : ¬ x ≤ y ↔ y < x := by
  rw [Int32.not_le]
section DSR
variable {N t : Nat} {s : mst} {A : AP}
theorem r_dist86 (hN : 2000 ≤ N) (ht : t < 6) (hA : WF A) (hR : RP s t A) {u d : Nat} {p3 : Int32} (hu : q_st A u) (hd : d ≤ 99) (hW : RW s t A 0 (u + 1, d) 0) (rc : Int32 → Int32 → Int32 → mst → Option (Int32 × mst)) (x2 x3 x5 x6 x7 x8 : Int32) : ∃ r s', G_M_distance_86 N rc (nI t) x2 x3 p3 x5 x6 x7 x8 N 1 0 s = G_M_distance_189 N rc (nI t) x2 x3 p3 x5 x6 x7 x8 r s' ∧ Md [109] [] s s' ∧ ((r = 1 ∧ q_xp A u d p3) ∨ (r = 0 ∧ ¬ q_xp A u d p3)) := by
  have hc := hA.1
  unfold WFc at hc
  have hG : GW A 0 (u + 1, d) 0 := ⟨hA, by omega, by omega, Or.inr ⟨rfl, by rw [Nat.add_sub_cancel]; exact hu, hd⟩⟩
  refine Exists.elim (lpE (F := fun f k (q : Int32 × mst) => G_M_distance_86 N rc (nI t) x2 x3 p3 x5 x6 x7 x8 f q.1 (nI k) q.2) (n := q_nr A) (I := fun k q => Md [109] [] s q.2 ∧ ((q.1 = 1 ∧ ∀ k', k' < k → q_rk A u d p3 k') ∨ (q.1 = 0 ∧ ∃ k', k' < k ∧ ¬ q_rk A u d p3 k'))) ?_ N 0 (1, s) (Nat.zero_le _) (by omega) ⟨Md_r, Or.inl ⟨rfl, fun k' h => by omega⟩⟩) ?_
  · intro f k ⟨x9, s1⟩ hk ⟨i1, i2⟩
    dsimp only at i1 i2 ⊢
    have R1 : RP s1 t A := RP_md hR i1 (by decide)
    have W1 : RW s1 t A 0 (u + 1, d) 0 := RW_md hW i1 (by decide) (by decide)
    obtain ⟨w1, w2, w3⟩ := hA.2.2.2.2.2.2.1 k hk
    obtain ⟨e1, e2, e3⟩ := R1.2.2.2.2.1.2 k hk
    obtain ⟨g1, _⟩ := R1.2.2.2.1.2 (q_rt A k) w1
    obtain ⟨v, s2, f1, f2, f3⟩ := r_would (N := N) (by omega) ht hG R1 W1 w1
    have hvt := q_tw_eq f3
    have hun : G_M_distance_86 N rc (nI t) x2 x3 p3 x5 x6 x7 x8 (f + 1) x9 (nI k) s1 = if nI (q_rw A k) = 0 then (if nI (q_ek A (q_rt A k)) = 1 then (if x9 = 0 then G_M_distance_86 N rc (nI t) x2 x3 p3 x5 x6 x7 x8 f 0 (nI (k + 1)) s1 else if p3 < q_df (q_rv A k) v then G_M_distance_86 N rc (nI t) x2 x3 p3 x5 x6 x7 x8 f 0 (nI (k + 1)) s2 else G_M_distance_86 N rc (nI t) x2 x3 p3 x5 x6 x7 x8 f 1 (nI (k + 1)) s2) else G_M_distance_86 N rc (nI t) x2 x3 p3 x5 x6 x7 x8 f x9 (nI (k + 1)) s1) else G_M_distance_86 N rc (nI t) x2 x3 p3 x5 x6 x7 x8 f x9 (nI (k + 1)) s1 := by
      show GB_M_distance_86 N rc (G_M_distance_86 N rc (nI t) x2 x3 p3 x5 x6 x7 x8 f) (nI t) x2 x3 p3 x5 x6 x7 x8 x9 (nI k) s1 = _
      unfold GB_M_distance_86 G_M_distance_180 G_M_distance_181 G_M_distance_183 q_df
      rw [rdA_nI (by omega) (by decide), Option.bind_some, rp_nr R1, if_neg (nI_ge hk (by omega)), L_24, nI_mul, nI_add, rdA_nI (by omega) (by decide), Option.bind_some, e2, rdA_nI (by omega) (by decide), Option.bind_some, e1, L_12, nI_mul, nI_add, rdA_nI (by omega) (by decide), Option.bind_some, g1, rdA_nI (by omega) (by decide), Option.bind_some, e3, Option.bind_some, f1, Option.bind_some, nI_1]
    rw [hun]
    have stay : (q_rw A k ≠ 0 ∨ q_ek A (q_rt A k) ≠ 1) → ((x9 = 1 ∧ ∀ k', k' < k + 1 → q_rk A u d p3 k') ∨ (x9 = 0 ∧ ∃ k', k' < k + 1 ∧ ¬ q_rk A u d p3 k')) := by
      intro hh
      rcases i2 with ⟨a, b⟩ | ⟨a, k', b, c⟩
      · refine Or.inl ⟨a, fun k' hk' => ?_⟩
        by_cases e : k' = k
        · rw [e]
          intro h1 h2
          rcases hh with hh | hh
          · exact absurd h1 hh
          · exact absurd h2 hh
        · exact b k' (by omega)
      · exact Or.inr ⟨a, k', by omega, c⟩
    by_cases c1 : q_rw A k = 0
    · rw [if_pos (show nI (q_rw A k) = 0 by rw [c1]; rfl)]
      by_cases c2 : q_ek A (q_rt A k) = 1
      · rw [if_pos (show nI (q_ek A (q_rt A k)) = 1 by rw [c2]; rfl)]
        rcases i2 with ⟨a, b⟩ | ⟨a, k', b, c⟩
        · subst a
          rw [if_neg i10]
          by_cases c3 : q_df (q_rv A k) v ≤ p3
          · rw [if_neg (fun h => absurd c3 (i32_nle.mpr h))]
            refine ⟨(1, s2), ⟨Md_t i1 f2, Or.inl ⟨rfl, fun k' hk' => ?_⟩⟩, rfl⟩
            by_cases e : k' = k
            · rw [e]; intro _ _; rw [hvt]; exact c3
            · exact b k' (by omega)
          · rw [if_pos (i32_nle.mp c3)]
            refine ⟨(0, s2), ⟨Md_t i1 f2, Or.inr ⟨rfl, k, by omega, fun h => ?_⟩⟩, rfl⟩
            have := h c1 c2
            rw [hvt] at this
            exact c3 this
        · subst a
          rw [if_pos rfl]
          exact ⟨(0, s1), ⟨i1, Or.inr ⟨rfl, k', by omega, c⟩⟩, rfl⟩
      · rw [if_neg (show ¬ nI (q_ek A (q_rt A k)) = 1 from fun h => c2 (by
          have hq := (hA.2.2.2.2.2.1 (q_rt A k) w1).1
          exact (nI_eq (a := q_ek A (q_rt A k)) (b := 1) (by omega) (by omega)).mp h))]
        exact ⟨(x9, s1), ⟨i1, stay (Or.inr c2)⟩, rfl⟩
    · rw [if_neg (show ¬ nI (q_rw A k) = 0 from nI_ne0 (by omega) (by omega))]
      exact ⟨(x9, s1), ⟨i1, stay (Or.inl c1)⟩, rfl⟩
  · intro f ⟨⟨x9, s1⟩, ⟨i1, i2⟩, e⟩
    dsimp only at i1 i2 e
    have R1 : RP s1 t A := RP_md hR i1 (by decide)
    refine ⟨x9, s1, Eq.trans e ?_, i1, ?_⟩
    · show GB_M_distance_86 N rc (G_M_distance_86 N rc (nI t) x2 x3 p3 x5 x6 x7 x8 f) (nI t) x2 x3 p3 x5 x6 x7 x8 x9 (nI (q_nr A)) s1 = _
      unfold GB_M_distance_86
      rw [rdA_nI (by omega) (by decide), Option.bind_some, rp_nr R1, if_pos (nI_le (Nat.le_refl _) (by omega))]
    · rcases i2 with ⟨a, b⟩ | ⟨a, k', b, c⟩
      · exact Or.inl ⟨a, b⟩
      · exact Or.inr ⟨a, fun h => c (h k' b)⟩
theorem r_distance (hN : 2000 ≤ N) (ht : t < 6) (hA : WF A) (hR : RP s t A) {x p e : Nat} {p3 : Int32} (hx : x < q_nc A) (hp : p < q_pr A x) (he : e ≤ 1) : ∃ s', G_M_distance_41 N (nI t) (nI x) (nI p) p3 (nI e) N (-1) (-1) 0 s = some (cd (q_dist A (8 * x + p) p3 e), s') ∧ Md [106, 107, 108, 109] [29, 30, 31, 32, 33, 34] s s' := by
  have hc := hA.1
  unfold WFc at hc
  have hxx := hA.2.1 x hx
  have hp8 : p < 8 := by omega
  have hdiv : (8 * x + p) / 8 = x := by omega
  have hst : q_st A (8 * x + p) := by unfold q_st; rw [hdiv]; exact ⟨hx, by rw [show (8 * x + p) % 8 = p by omega]; exact hp⟩
  refine Exists.elim (lpE (F := fun f d (q : (Int32 × Int32) × mst) => G_M_distance_41 N (nI t) (nI x) (nI p) p3 (nI e) f q.1.1 q.1.2 (nI d) q.2) (n := q_ln A x + 1) (I := fun d q => q.1 = (cd (q_f1 A (8 * x + p) p3 d), cd (q_f2 A (8 * x + p) p3 d)) ∧ Md [106, 107, 108, 109] [29, 30, 31, 32, 33, 34] s q.2) ?_ N 0 ((-1, -1), s) (Nat.zero_le _) (by omega) ⟨by unfold q_f1 q_f2; rw [cd_0], Md_r⟩) ?_
  · intro f d ⟨⟨x6, x7⟩, s1⟩ hd ⟨hx1, i1⟩
    dsimp only at hx1 i1 ⊢
    have h6 : x6 = cd (q_f1 A (8 * x + p) p3 d) := congrArg Prod.fst hx1
    have h7 : x7 = cd (q_f2 A (8 * x + p) p3 d) := congrArg Prod.snd hx1
    have R1 : RP s1 t A := RP_md hR i1 (by decide)
    obtain ⟨s2, f1, f2, f3⟩ := r_lay (N := N) (w := 0) (wet := 0) (by omega) ht ⟨hA, by omega, by omega, Or.inl rfl⟩ R1
    generalize hs3 : wr1 (wr1 (wr1 s2 85 31 (nI x)) 85 32 (nI p)) 85 33 (nI d) = s3
    have m3 : Md [106, 107, 108, 109] [29, 30, 31, 32, 33, 34] s2 s3 := by rw [← hs3]; exact Md_t (Md_t (Md_f (by decide)) (Md_f (by decide))) (Md_f (by decide))
    have W3 : RW s3 t A 0 (8 * x + p + 1, d) 0 := by
      obtain ⟨a1, a2, a3, a4, a5, a6, a7⟩ := f2
      have k85 : ∀ j, j ≠ 31 → j ≠ 32 → j ≠ 33 → s3.1 85 j = s2.1 85 j := by
        intro j j1 j2 j3
        rw [← hs3, wr1_at, if_neg j3, wr1_at, if_neg j2, wr1_at, if_neg j1]
      have kk : ∀ q, q ≠ 85 → s3.1 q = s2.1 q := by
        intro q hq
        rw [← hs3, wr1_ne hq, wr1_ne hq, wr1_ne hq]
      refine ⟨by rw [k85 29 (by decide) (by decide) (by decide)]; exact a1, by rw [k85 30 (by decide) (by decide) (by decide)]; exact a2, by rw [k85 34 (by decide) (by decide) (by decide)]; exact a3, fun h => absurd h (Nat.succ_ne_zero _), fun _ => ?_, ?_, ?_⟩
      · show s3.1 85 31 = nI ((8 * x + p + 1 - 1) / 8) ∧ s3.1 85 32 = nI ((8 * x + p + 1 - 1) % 8) ∧ s3.1 85 33 = nI d
        rw [Nat.add_sub_cancel, hdiv, show (8 * x + p) % 8 = p by omega, ← hs3]
        refine ⟨?_, ?_, ?_⟩
        · rw [wr1_at, if_neg (by decide), wr1_at, if_neg (by decide), wr1_at, if_pos rfl]
        · rw [wr1_at, if_neg (by decide), wr1_at, if_pos rfl]
        · rw [wr1_at, if_pos rfl]
      · unfold RL
        rw [kk 106 (by decide), kk 107 (by decide)]
        exact a6
      · rw [kk 108 (by decide)]; exact a7
    have i3 : Md [106, 107, 108, 109] [29, 30, 31, 32, 33, 34] s s3 := Md_t i1 (Md_t (Md_m f3 (by decide) (by decide)) m3)
    have R3 : RP s3 t A := RP_md hR i3 (by decide)
    obtain ⟨r, s4, g1, g2, g3⟩ := r_dist86 (N := N) (p3 := p3) hN ht hA R3 hst (show d ≤ 99 by omega) W3 (G_M_distance_41 N (nI t) (nI x) (nI p) p3 (nI e) f) (nI x) (nI p) (nI e) x6 x7 (nI d)
    have i4 : Md [106, 107, 108, 109] [29, 30, 31, 32, 33, 34] s s4 := Md_t i3 (Md_m g2 (by decide) (by decide))
    have hun : G_M_distance_41 N (nI t) (nI x) (nI p) p3 (nI e) (f + 1) x6 x7 (nI d) s1 = if r = 0 then G_M_distance_41 N (nI t) (nI x) (nI p) p3 (nI e) f x6 x7 (nI (d + 1)) s4 else if x6 = -1 then G_M_distance_41 N (nI t) (nI x) (nI p) p3 (nI e) f (nI d) (nI d) (nI (d + 1)) s4 else G_M_distance_41 N (nI t) (nI x) (nI p) p3 (nI e) f x6 (nI d) (nI (d + 1)) s4 := by
      show GB_M_distance_41 N (G_M_distance_41 N (nI t) (nI x) (nI p) p3 (nI e) f) (nI t) (nI x) (nI p) p3 (nI e) x6 x7 (nI d) s1 = _
      unfold GB_M_distance_41
      rw [L_7, nI_mul, nI_add, rdA_nI (by omega) (by decide), Option.bind_some, rp_ln R1 hx, if_neg (nI_nlt (by omega) (by omega)), L_0, f1, Option.bind_some]
      have hw3 : wrI (wrI (wrI s2 85 31 (nI x)) 85 32 (nI p)) 85 33 (nI d) = s3 := hs3
      rw [hw3, ← L_0, g1]
      unfold G_M_distance_189 G_M_distance_210 G_M_distance_216
      rw [nI_1]
    rw [hun]
    have l1 := q_f1_le (A := A) (u := 8 * x + p) (p3 := p3) d
    obtain ⟨z1, z2⟩ := q_f1_s (A := A) (u := 8 * x + p) (d := d) (p3 := p3)
    obtain ⟨y1, y2⟩ := q_f2_s (A := A) (u := 8 * x + p) (d := d) (p3 := p3)
    rcases g3 with ⟨rfl, hxp⟩ | ⟨rfl, hxp⟩
    · rw [if_neg i10]
      by_cases c : q_f1 A (8 * x + p) p3 d = 0
      · rw [if_pos (by rw [h6, c, cd_0])]
        exact ⟨((nI d, nI d), s4), ⟨by rw [(z2 c).1 hxp, y1 hxp, cd_s], i4⟩, rfl⟩
      · rw [if_neg (by rw [h6]; exact fun h => c ((cd_n1 (by omega)).mp h))]
        exact ⟨((x6, nI d), s4), ⟨by rw [z1 c, y1 hxp, cd_s, h6], i4⟩, rfl⟩
    · rw [if_pos rfl]
      refine ⟨((x6, x7), s4), ⟨?_, i4⟩, rfl⟩
      show (x6, x7) = _
      rw [y2 hxp, h6, h7]
      by_cases c : q_f1 A (8 * x + p) p3 d = 0
      · rw [(z2 c).2 hxp, c]
      · rw [z1 c]
  · intro f ⟨⟨⟨x6, x7⟩, s1⟩, ⟨hx1, i1⟩, ee⟩
    dsimp only at hx1 i1 ee
    have h6 : x6 = cd (q_f1 A (8 * x + p) p3 (q_ln A x + 1)) := congrArg Prod.fst hx1
    have h7 : x7 = cd (q_f2 A (8 * x + p) p3 (q_ln A x + 1)) := congrArg Prod.snd hx1
    have R1 : RP s1 t A := RP_md hR i1 (by decide)
    refine ⟨s1, Eq.trans ee ?_, i1⟩
    show GB_M_distance_41 N (G_M_distance_41 N (nI t) (nI x) (nI p) p3 (nI e) f) (nI t) (nI x) (nI p) p3 (nI e) x6 x7 (nI (q_ln A x + 1)) s1 = _
    unfold GB_M_distance_41 G_M_distance_222 G_M_distance_234 q_dist
    rw [L_7, nI_mul, nI_add, rdA_nI (by omega) (by decide), Option.bind_some, rp_ln R1 hx, if_pos (nI_lt (by omega) (by omega)), hdiv]
    by_cases c : e = 0
    · rw [if_pos (by rw [c]; rfl), if_pos c, h6]
    · rw [if_neg (nI_ne0 (by omega) (by omega)), if_neg c, h7]
end DSR
