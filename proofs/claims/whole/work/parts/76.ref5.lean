/-! ===== the reference: what is HEARD, METRES ===== -/
theorem tb_or2 {v n j : Nat} : (v ||| 2 ^ n).testBit j = true ↔ v.testBit j = true ∨ j = n := by
  rw [Nat.testBit_or, Nat.testBit_two_pow, Bool.or_eq_true, decide_eq_true_eq]
  constructor
  · intro h
    rcases h with h | h
    · exact Or.inl h
    · exact Or.inr h.symm
  · intro h
    rcases h with h | h
    · exact Or.inl h
    · exact Or.inr h.symm
theorem lt_or2 {v n m : Nat} (h : v < 2 ^ m) (hn : n < m) : v ||| 2 ^ n < 2 ^ m := Nat.or_lt_two_pow h (Nat.pow_lt_pow_right (by decide) hn)
/-- what one hears at an end of CABLE y, of a TONE at piece v0 -/
def HB (A : AP) (w : Nat) (b : Nat × Nat) (wet v0 y e v : Nat) : Prop := v < 64 ∧ ∀ j, v.testBit j = true ↔ j < q_pr A y ∧ q_R A w b wet v0 (q_nd A w b (8 * y + j) e)
theorem HB_u {A : AP} {w wet v0 y e v v' : Nat} {b : Nat × Nat} (h : HB A w b wet v0 y e v) (h' : HB A w b wet v0 y e v') : v = v' := by
  apply Nat.eq_of_testBit_eq
  intro j
  rw [Bool.eq_iff_iff]
  exact (h.2 j).trans (h'.2 j).symm
section HRD
variable {N t w wet : Nat} {s : mst} {A : AP} {b : Nat × Nat}
theorem r_heardAt (hN : 1000 ≤ N) (ht : t < 6) (hG : GW A w b wet) (hR : RP s t A) (hW : RW s t A w b wet) {x p e y e' : Nat} (hx : x < q_nc A) (hp : p < q_pr A x) (he : e < 2) (hy : y < q_nc A) (he' : e' < 2) : ∃ v s', G_M_heardAt N s (nI x) (nI p) (nI e) (nI y) (nI e') = some (nI v, s') ∧ Md [109] [] s s' ∧ HB A w b wet (q_nd A w b (8 * x + p) e) y e' v := by
  have hA := hG.1
  have hc := hA.1
  unfold WFc at hc
  have hyy := hA.2.1 y hy
  obtain ⟨hst, _, _⟩ := st_mk hA hx hp
  obtain ⟨s3, f1, m3, so3⟩ := r_sound hN ht hG hR hW (q_nd_ok hG (e := e) hst)
  have R3 : RP s3 t A := RP_md hR m3 (by decide)
  have W3 : RW s3 t A w b wet := RW_md hW m3 (by decide) (by decide)
  have e0 := W3.1
  have e1 := rp_pr R3 hy
  unfold G_M_heardAt
  rw [r_nodeAt (by omega) ht hG hR hW hx hp he, Option.bind_some]
  dsimp only
  rw [f1, Option.bind_some]
  refine Exists.elim (lpE (F := fun f n (z : Int32 × mst) => G_M_heardAt_17 N (nI y) (nI e') f z.1 (nI n) z.2) (n := q_pr A y) (I := fun n z => z.2 = s3 ∧ ∃ v, z.1 = nI v ∧ v < 2 ^ 6 ∧ ∀ j, v.testBit j = true ↔ j < n ∧ q_R A w b wet (q_nd A w b (8 * x + p) e) (q_nd A w b (8 * y + j) e')) ?_ N 0 (nI 0, s3) (by omega) (by omega) ⟨rfl, 0, rfl, by decide, fun j => by rw [Nat.zero_testBit]; exact ⟨fun z => absurd z (by decide), fun z => absurd z.1 (by omega)⟩⟩) ?_
  · intro f n z hn ⟨i1, v, i2, i3, i4⟩
    obtain ⟨hst2, _, _⟩ := st_mk hA hy hn
    have ho := q_nd_ok hG (e := e') hst2
    have g1 := r_nodeAt (N := N) (by omega) ht hG R3 W3 hy hn he'
    have hl := nm_lt hA ho
    have hs1 := sh1 (n := n) (by omega)
    have hst : G_M_heardAt_17 N (nI y) (nI e') (f + 1) z.1 (nI n) z.2 = if s3.1 109 (nm (q_nd A w b (8 * y + n) e')) = 0 then G_M_heardAt_17 N (nI y) (nI e') f (nI v ||| 0) (nI (n + 1)) s3 else G_M_heardAt_17 N (nI y) (nI e') f (nI v ||| nI (2 ^ n)) (nI (n + 1)) s3 := by
      show GB_M_heardAt_17 N (G_M_heardAt_17 N (nI y) (nI e') f) (nI y) (nI e') z.1 (nI n) z.2 = _
      unfold GB_M_heardAt_17 G_M_heardAt_65
      rw [i1, i2, e0, L_7, nI_mul, nI_add, rdA_nI (by omega) (by decide), Option.bind_some, e1, if_neg (nI_ge hn (by omega)), g1, Option.bind_some]
      dsimp only
      rw [rdA_nI hl (by decide), Option.bind_some, nI_1, hs1]
    rcases so3 _ ho with ⟨a1, a2⟩ | ⟨a1, a2⟩
    · refine ⟨(nI (v ||| 2 ^ n), s3), ⟨rfl, v ||| 2 ^ n, rfl, lt_or2 i3 (by omega), fun j => ?_⟩, ?_⟩
      · rw [tb_or2, i4 j]
        constructor
        · intro h
          rcases h with h | h
          · exact ⟨by omega, h.2⟩
          · rw [h]; exact ⟨by omega, a2⟩
        · intro h
          by_cases hj : j = n
          · exact Or.inr hj
          · exact Or.inl ⟨by omega, h.2⟩
      · refine hst.trans ?_
        rw [a1, if_neg (by decide), nI_or]
    · refine ⟨(nI v, s3), ⟨rfl, v, rfl, i3, fun j => ?_⟩, ?_⟩
      · rw [i4 j]
        constructor
        · intro h
          exact ⟨by omega, h.2⟩
        · intro h
          refine ⟨?_, h.2⟩
          by_cases hj : j = n
          · rw [hj] at h; exact absurd h.2 a2
          · omega
      · refine hst.trans ?_
        rw [a1, if_pos nI_0, L_0, nI_or, Nat.or_zero]
  · intro f ⟨⟨z1, z2⟩, ⟨i1, v, i2, i3, i4⟩, e2⟩
    dsimp only at i1 i2
    subst i1 i2
    refine ⟨v, z2, ?_, m3, i3, i4⟩
    refine Eq.trans e2 ?_
    simp (disch := omega) only [G_M_heardAt_17, GB_M_heardAt_17, G_M_heardAt_74, L_0, L_1, L_2, L_3, L_4, L_5, L_6, L_7, L_8, L_9, L_10, L_11, L_12, L_15, L_16, L_20, L_24, L_26, L_31, L_32, L_42, L_48, L_56, L_57, L_59, L_60, L_97, L_98, L_99, L_104, L_106, L_255, L_300, L_462, L_616, neg1, nI_add, nI_mul, pk_div, pk_sub, nI_or, nI_shr, nI_shl, nI_and1, nI_leI, nI_ltI, nI_eq, cd_eq, cd_nI, nI_cd, rdA_nI, stA_nI, wrI_1, Option.bind_some, Option.map_some, Option.bind_none, if_true, if_false, e0, e1]
    rw [if_pos (by omega)]
/-- v is the first of d = 0 .. L for which P is so, as seen from an end (0 none, d + 1) -/
def FST (e L : Nat) (P : Nat → Prop) (v : Nat) : Prop := (v = 0 ∧ ∀ d, d ≤ L → ¬ P d) ∨ (∃ d, d ≤ L ∧ v = d + 1 ∧ P d ∧ ∀ d', d' ≤ L → P d' → if e = 0 then d ≤ d' else d' ≤ d)
theorem FST_u {e L v v' : Nat} {P : Nat → Prop} (h : FST e L P v) (h' : FST e L P v') : v = v' := by
  rcases h with ⟨rfl, h⟩ | ⟨d, h1, rfl, h2, h3⟩
  · rcases h' with ⟨rfl, _⟩ | ⟨d', g1, rfl, g2, _⟩
    · rfl
    · exact absurd g2 (h d' g1)
  · rcases h' with ⟨rfl, h'⟩ | ⟨d', g1, rfl, g2, g3⟩
    · exact absurd h2 (h' d h1)
    · have a := h3 d' g1 g2
      have c := g3 d h1 h2
      split at a
      · rename_i he
        rw [if_pos he] at c
        omega
      · rename_i he
        rw [if_neg he] at c
        omega
def q_he (A : AP) (w : Nat) (b : Nat × Nat) (s e : Nat) : Nat := if e = 0 then 0 else q_nk A w b s (q_ln A (s / 8))
/-- a TOUCH at d on the piece at the end -/
def q_TP (A : AP) (w : Nat) (b : Nat × Nat) (wet s e d : Nat) : Prop := wet = 1 ∧ (∃ o, q_TT A w s o d ∨ q_TT A w o s d) ∧ q_nk A w b s d = q_he A w b s e
/-- a BREAK at d -/
def q_BP (A : AP) (w : Nat) (b : Nat × Nat) (s d : Nat) : Prop := (if d = 0 then 0 else q_nk A w b s (d - 1)) < q_nk A w b s d
def q_cd (A : AP) (w : Nat) (b : Nat × Nat) (s e k : Nat) : Prop := q_is A w k 2 ∧ (q_a A k = s ∨ q_b A k = s) ∧ q_nk A w b s (q_td A k) = q_he A w b s e
theorem r_firstTouch (hN : 1000 ≤ N) (ht : t < 6) (hG : GW A w b wet) (hR : RP s t A) (hW : RW s t A w b wet) {x p e : Nat} (hx : x < q_nc A) (hp : p < q_pr A x) (he : e < 2) : ∃ v, G_M_firstTouch N s (nI x) (nI p) (nI e) = some (cd v, s) ∧ FST e (q_ln A x) (q_TP A w b wet (8 * x + p) e) v := by
  have hA := hG.1
  have hc := hA.1
  unfold WFc at hc
  have hxx := hA.2.1 x hx
  obtain ⟨_, hw, hwet, _⟩ := id hG
  obtain ⟨hst, hs8, hs7⟩ := st_mk hA hx hp
  obtain ⟨w29, w30, w34, _⟩ := id hW
  have e1 := rp_nt hR
  have key : ∃ v, G_M_firstTouch_27 N (nI x) (nI p) (nI e) (nI (q_he A w b (8 * x + p) e)) N (cd 0) (nI 0) s = some (cd v, s) ∧ FST e (q_ln A x) (q_TP A w b wet (8 * x + p) e) v := by
    by_cases hw0 : wet = 0
    · refine ⟨0, ?_, Or.inl ⟨rfl, fun d _ z => by unfold q_TP at z; omega⟩⟩
      rw [hw0] at w34
      obtain ⟨M, hM⟩ : ∃ M, N = M + 1 := ⟨N - 1, by omega⟩
      generalize N = N' at hM ⊢
      conv => lhs; arg 6; rw [hM]
      show GB_M_firstTouch_27 N' (G_M_firstTouch_27 N' (nI x) (nI p) (nI e) (nI (q_he A w b (8 * x + p) e)) M) (nI x) (nI p) (nI e) (nI (q_he A w b (8 * x + p) e)) (cd 0) (nI 0) s = _
      unfold GB_M_firstTouch_27 G_M_firstTouch_186
      rw [w29, rdA_nI (by omega) (by decide), Option.bind_some, w34, e1]
      split
      · rfl
      · rw [if_pos nI_0]
    · have hw1 : wet = 1 := by omega
      rw [hw1] at w34
      refine Exists.elim (lpE (F := fun f k (z : Int32 × mst) => G_M_firstTouch_27 N (nI x) (nI p) (nI e) (nI (q_he A w b (8 * x + p) e)) f z.1 (nI k) z.2) (n := q_nt A) (I := fun k z => z.2 = s ∧ ∃ v, z.1 = cd v ∧ v ≤ 100 ∧ ((v = 0 ∧ ∀ k', k' < k → ¬ q_cd A w b (8 * x + p) e k') ∨ (∃ k0, k0 < k ∧ v = q_td A k0 + 1 ∧ q_cd A w b (8 * x + p) e k0 ∧ ∀ k', k' < k → q_cd A w b (8 * x + p) e k' → if e = 0 then q_td A k0 ≤ q_td A k' else q_td A k' ≤ q_td A k0))) ?_ N 0 (cd 0, s) (by omega) (by omega) ⟨rfl, 0, rfl, by omega, Or.inl ⟨rfl, fun k' hk' => by omega⟩⟩) ?_
      · intro f k ⟨z1, z2⟩ hk ⟨i1, v, i2, i3, i4⟩
        dsimp only at i1 i2
        subst i1 i2
        have e2 := rp_tk hR hk
        have e3 := rp_tx hR hk
        have htt := hA.2.2.2.2.1 k hk
        have h8 : q_tx A k < 100 := by
          by_cases h3 : q_tk A k = 3
          · have := htt.2.1 h3; omega
          · have := htt.2.2.1 (by omega); omega
        have hno : ¬ q_cd A w b (8 * x + p) e k → ∃ s' : Int32 × mst, (s'.2 = z2 ∧ ∃ v', s'.1 = cd v' ∧ v' ≤ 100 ∧ ((v' = 0 ∧ ∀ k', k' < k + 1 → ¬ q_cd A w b (8 * x + p) e k') ∨ (∃ k0, k0 < k + 1 ∧ v' = q_td A k0 + 1 ∧ q_cd A w b (8 * x + p) e k0 ∧ ∀ k', k' < k + 1 → q_cd A w b (8 * x + p) e k' → if e = 0 then q_td A k0 ≤ q_td A k' else q_td A k' ≤ q_td A k0))) ∧ G_M_firstTouch_27 N (nI x) (nI p) (nI e) (nI (q_he A w b (8 * x + p) e)) f (cd v) (nI (k + 1)) z2 = G_M_firstTouch_27 N (nI x) (nI p) (nI e) (nI (q_he A w b (8 * x + p) e)) f s'.1 (nI (k + 1)) s'.2 := by
          intro hno
          refine ⟨(cd v, z2), ⟨rfl, v, rfl, i3, ?_⟩, rfl⟩
          rcases i4 with ⟨a1, a2⟩ | ⟨k0, a1, a2, a3, a4⟩
          · refine Or.inl ⟨a1, fun k' hk' => ?_⟩
            by_cases hkk : k' = k
            · rw [hkk]; exact hno
            · exact a2 k' (by omega)
          · refine Or.inr ⟨k0, by omega, a2, a3, fun k' hk' hc' => ?_⟩
            by_cases hkk : k' = k
            · rw [hkk] at hc'; exact absurd hc' hno
            · exact a4 k' (by omega) hc'
        by_cases hs : so w k
        · by_cases h2 : q_tk A k = 2
          · obtain ⟨a1, a2, a3, a4, a5, a6, a7⟩ := q_abst hA hk (Or.inr h2)
            have a8 := q_st_lt hA a1
            have a9 := q_st_lt hA a2
            have b1 := htt.2.2.2.2 (Or.inr h2)
            have b2 := hA.2.1 (q_tx A k) (by have := a1.1; omega)
            have e5 := rp_tp hR hk (by omega)
            have e6 := rp_tq hR hk (Or.inr h2)
            have e7 := rp_td hR hk (Or.inr h2)
            have eqa : q_a A k = 8 * x + p ↔ q_tx A k = x ∧ q_tp A k = p := by unfold q_a; omega
            have eqb : q_b A k = 8 * x + p ↔ q_tx A k = x ∧ q_tq A k = p := by unfold q_b; omega
            have f1 := r_breaksTo (N := N) (by omega) ht hG hR hW (x := x) (p := p) (d := q_td A k) hx (by omega) (by omega)
            have k1 : q_nk A w b (8 * x + p) (q_td A k) ≤ 10 := nk10 hG
            have k2 : q_he A w b (8 * x + p) e ≤ 10 := by unfold q_he; split; omega; exact nk10 hG
            have hin : (q_a A k = 8 * x + p ∨ q_b A k = 8 * x + p) → ∃ s' : Int32 × mst, (s'.2 = z2 ∧ ∃ v', s'.1 = cd v' ∧ v' ≤ 100 ∧ ((v' = 0 ∧ ∀ k', k' < k + 1 → ¬ q_cd A w b (8 * x + p) e k') ∨ (∃ k0, k0 < k + 1 ∧ v' = q_td A k0 + 1 ∧ q_cd A w b (8 * x + p) e k0 ∧ ∀ k', k' < k + 1 → q_cd A w b (8 * x + p) e k' → if e = 0 then q_td A k0 ≤ q_td A k' else q_td A k' ≤ q_td A k0))) ∧ G_M_firstTouch_113 N (G_M_firstTouch_27 N (nI x) (nI p) (nI e) (nI (q_he A w b (8 * x + p) e)) f) (nI x) (nI p) (nI e) (cd v) (nI (q_he A w b (8 * x + p) e)) (nI k) (nI (10 * t + k)) z2 = G_M_firstTouch_27 N (nI x) (nI p) (nI e) (nI (q_he A w b (8 * x + p) e)) f s'.1 (nI (k + 1)) s'.2 := by
              intro hab
              have hnew : q_cd A w b (8 * x + p) e k → (v = 0 ∨ (v ≠ 0 ∧ if e = 0 then q_td A k < v - 1 else v - 1 < q_td A k)) → ∃ v', cd (q_td A k + 1) = cd v' ∧ v' ≤ 100 ∧ ((v' = 0 ∧ ∀ k', k' < k + 1 → ¬ q_cd A w b (8 * x + p) e k') ∨ (∃ k0, k0 < k + 1 ∧ v' = q_td A k0 + 1 ∧ q_cd A w b (8 * x + p) e k0 ∧ ∀ k', k' < k + 1 → q_cd A w b (8 * x + p) e k' → if e = 0 then q_td A k0 ≤ q_td A k' else q_td A k' ≤ q_td A k0)) := by
                intro hcd hlt
                refine ⟨q_td A k + 1, rfl, by omega, Or.inr ⟨k, by omega, rfl, hcd, fun k' hk' hc' => ?_⟩⟩
                by_cases hkk : k' = k
                · rw [hkk]; split <;> omega
                · rcases i4 with ⟨c1, c2⟩ | ⟨k0, c1, c2, c3, c4⟩
                  · exact absurd hc' (c2 k' (by omega))
                  · have c5 := c4 k' (by omega) hc'
                    rcases hlt with hlt | ⟨hlt, hlt2⟩
                    · omega
                    · split
                      · rename_i he0
                        rw [if_pos he0] at c5 hlt2
                        omega
                      · rename_i he0
                        rw [if_neg he0] at c5 hlt2
                        omega
              have hold : (v ≠ 0 ∧ if e = 0 then v - 1 ≤ q_td A k else q_td A k ≤ v - 1) → ((v = 0 ∧ ∀ k', k' < k + 1 → ¬ q_cd A w b (8 * x + p) e k') ∨ (∃ k0, k0 < k + 1 ∧ v = q_td A k0 + 1 ∧ q_cd A w b (8 * x + p) e k0 ∧ ∀ k', k' < k + 1 → q_cd A w b (8 * x + p) e k' → if e = 0 then q_td A k0 ≤ q_td A k' else q_td A k' ≤ q_td A k0)) := by
                intro ⟨hv, hle⟩
                rcases i4 with ⟨c1, c2⟩ | ⟨k0, c1, c2, c3, c4⟩
                · exact absurd c1 hv
                · refine Or.inr ⟨k0, by omega, c2, c3, fun k' hk' hc' => ?_⟩
                  by_cases hkk : k' = k
                  · rw [hkk]
                    rw [c2, Nat.add_sub_cancel] at hle
                    exact hle
                  · exact c4 k' (by omega) hc'
              by_cases hnk : q_nk A w b (8 * x + p) (q_td A k) = q_he A w b (8 * x + p) e
              · have hcd : q_cd A w b (8 * x + p) e k := ⟨⟨hs, h2⟩, hab, hnk⟩
                unfold G_M_firstTouch_113 G_M_firstTouch_171 G_M_firstTouch_180
                rw [rdA_nI (by omega) (by decide), Option.bind_some, e7, f1, Option.bind_some, if_pos (by rw [hnk]), nI_1]
                dsimp only
                rw [rdA_nI (show 10 * t + k < 60 by omega) (by decide)]
                by_cases hv0 : v = 0
                · rw [if_pos ((cd_n1 (by omega)).mpr hv0), Option.bind_some, e7]
                  exact ⟨(cd (q_td A k + 1), z2), ⟨rfl, hnew hcd (Or.inl hv0)⟩, by rw [cd_s]⟩
                · obtain ⟨v1, rfl⟩ : ∃ v1, v = v1 + 1 := ⟨v - 1, by omega⟩
                  rw [if_neg (fun z => hv0 ((cd_n1 (by omega)).mp z))]
                  by_cases he0 : e = 0
                  · rw [he0, if_pos nI_0, Option.bind_some, e7]
                    rw [he0] at hnew hold
                    by_cases hle : v1 ≤ q_td A k
                    · rw [if_pos (by rw [cd_s]; exact nI_le hle (by omega))]
                      exact ⟨(cd (v1 + 1), z2), ⟨rfl, v1 + 1, rfl, i3, hold ⟨hv0, by rw [if_pos rfl]; omega⟩⟩, rfl⟩
                    · rw [if_neg (by rw [cd_s]; exact nI_ge (by omega) (by omega)), Option.bind_some]
                      exact ⟨(cd (q_td A k + 1), z2), ⟨rfl, hnew (by rw [← he0]; exact hcd) (Or.inr ⟨hv0, by rw [if_pos rfl]; omega⟩)⟩, by rw [cd_s]⟩
                  · have he1 : e = 1 := by omega
                    rw [if_neg (by rw [he1]; decide), Option.bind_some, e7]
                    by_cases hle : q_td A k ≤ v1
                    · rw [if_pos (by rw [cd_s]; exact nI_le hle (by omega))]
                      exact ⟨(cd (v1 + 1), z2), ⟨rfl, v1 + 1, rfl, i3, hold ⟨hv0, by rw [if_neg he0]; omega⟩⟩, rfl⟩
                    · rw [if_neg (by rw [cd_s]; exact nI_ge (by omega) (by omega)), Option.bind_some]
                      exact ⟨(cd (q_td A k + 1), z2), ⟨rfl, hnew hcd (Or.inr ⟨hv0, by rw [if_neg he0]; omega⟩)⟩, by rw [cd_s]⟩
              · obtain ⟨s', g1, g2⟩ := hno (fun z => hnk z.2.2)
                refine ⟨s', g1, ?_⟩
                rw [← g2]
                unfold G_M_firstTouch_113 G_M_firstTouch_180
                rw [rdA_nI (by omega) (by decide), Option.bind_some, e7, f1, Option.bind_some, if_neg (fun z => hnk ((nI_eq (by omega) (by omega)).mp z)), nI_1]
            have hst2 : ∀ R, (∀ (c1 : q_tx A k = x), (if q_tp A k = p then G_M_firstTouch_113 N (G_M_firstTouch_27 N (nI x) (nI p) (nI e) (nI (q_he A w b (8 * x + p) e)) f) (nI x) (nI p) (nI e) (cd v) (nI (q_he A w b (8 * x + p) e)) (nI k) (nI (10 * t + k)) z2 else if q_tq A k = p then G_M_firstTouch_113 N (G_M_firstTouch_27 N (nI x) (nI p) (nI e) (nI (q_he A w b (8 * x + p) e)) f) (nI x) (nI p) (nI e) (cd v) (nI (q_he A w b (8 * x + p) e)) (nI k) (nI (10 * t + k)) z2 else G_M_firstTouch_27 N (nI x) (nI p) (nI e) (nI (q_he A w b (8 * x + p) e)) f (cd v) (nI (k + 1)) z2) = R) → (¬ q_tx A k = x → G_M_firstTouch_27 N (nI x) (nI p) (nI e) (nI (q_he A w b (8 * x + p) e)) f (cd v) (nI (k + 1)) z2 = R) → G_M_firstTouch_27 N (nI x) (nI p) (nI e) (nI (q_he A w b (8 * x + p) e)) (f + 1) (cd v) (nI k) z2 = R := by
              intro R h1 h1'
              show GB_M_firstTouch_27 N (G_M_firstTouch_27 N (nI x) (nI p) (nI e) (nI (q_he A w b (8 * x + p) e)) f) (nI x) (nI p) (nI e) (nI (q_he A w b (8 * x + p) e)) (cd v) (nI k) z2 = _
              unfold GB_M_firstTouch_27
              simp (disch := omega) only [G_M_firstTouch_180, L_0, L_1, L_2, L_3, L_4, L_5, L_6, L_7, L_8, L_9, L_10, L_11, L_12, L_15, L_16, L_20, L_24, L_26, L_31, L_32, L_42, L_48, L_56, L_57, L_59, L_60, L_97, L_98, L_99, L_104, L_106, L_255, L_300, L_462, L_616, neg1, nI_add, nI_mul, pk_div, pk_sub, nI_or, nI_shr, nI_shl, nI_and1, nI_leI, nI_ltI, nI_eq, cd_eq, cd_nI, nI_cd, rdA_nI, stA_nI, wrI_1, Option.bind_some, Option.map_some, Option.bind_none, if_true, if_false, w29, w34, e1, e2, e3, e5, e6, r_isSo_t w30 (show w < 2 ^ 31 by omega) (show k < 31 by omega) hs]
              rw [if_neg (by omega), if_neg (by omega), if_neg (by omega), if_pos h2]
              by_cases c1 : q_tx A k = x
              · rw [if_pos c1]; exact h1 c1
              · rw [if_neg c1]; exact h1' c1
            by_cases c1 : q_tx A k = x
            · by_cases c2 : q_tp A k = p ∨ q_tq A k = p
              · obtain ⟨s', g1, g2⟩ := hin (by rcases c2 with c2 | c2; exact Or.inl (eqa.mpr ⟨c1, c2⟩); exact Or.inr (eqb.mpr ⟨c1, c2⟩))
                refine ⟨s', g1, hst2 _ (fun _ => ?_) (fun z => absurd c1 z)⟩
                by_cases c3 : q_tp A k = p
                · rw [if_pos c3]; exact g2
                · rw [if_neg c3, if_pos (c2.resolve_left c3)]; exact g2
              · obtain ⟨s', g1, g2⟩ := hno (fun z => by
                  rcases z.2.1 with z | z
                  · exact c2 (Or.inl (eqa.mp z).2)
                  · exact c2 (Or.inr (eqb.mp z).2))
                refine ⟨s', g1, hst2 _ (fun _ => ?_) (fun z => absurd c1 z)⟩
                rw [if_neg (fun z => c2 (Or.inl z)), if_neg (fun z => c2 (Or.inr z))]
                exact g2
            · obtain ⟨s', g1, g2⟩ := hno (fun z => by
                rcases z.2.1 with z | z
                · exact c1 (eqa.mp z).1
                · exact c1 (eqb.mp z).1)
              exact ⟨s', g1, hst2 _ (fun z => absurd z c1) (fun _ => g2)⟩
          · obtain ⟨s', g1, g2⟩ := hno (fun z => h2 z.1.2)
            refine ⟨s', g1, ?_⟩
            rw [← g2]
            simp (disch := omega) only [G_M_firstTouch_27, GB_M_firstTouch_27, G_M_firstTouch_180, L_0, L_1, L_2, L_3, L_4, L_5, L_6, L_7, L_8, L_9, L_10, L_11, L_12, L_15, L_16, L_20, L_24, L_26, L_31, L_32, L_42, L_48, L_56, L_57, L_59, L_60, L_97, L_98, L_99, L_104, L_106, L_255, L_300, L_462, L_616, neg1, nI_add, nI_mul, pk_div, pk_sub, nI_or, nI_shr, nI_shl, nI_and1, nI_leI, nI_ltI, nI_eq, cd_eq, cd_nI, nI_cd, rdA_nI, stA_nI, wrI_1, Option.bind_some, Option.map_some, Option.bind_none, if_true, if_false, w29, w34, e1, e2, r_isSo_t w30 (show w < 2 ^ 31 by omega) (show k < 31 by omega) hs]
            rw [if_neg (by omega), if_neg (by omega), if_neg (by omega), if_neg h2]
        · obtain ⟨s', g1, g2⟩ := hno (fun z => hs z.1.1)
          refine ⟨s', g1, ?_⟩
          rw [← g2]
          simp (disch := omega) only [G_M_firstTouch_27, GB_M_firstTouch_27, G_M_firstTouch_180, L_0, L_1, L_2, L_3, L_4, L_5, L_6, L_7, L_8, L_9, L_10, L_11, L_12, L_15, L_16, L_20, L_24, L_26, L_31, L_32, L_42, L_48, L_56, L_57, L_59, L_60, L_97, L_98, L_99, L_104, L_106, L_255, L_300, L_462, L_616, neg1, nI_add, nI_mul, pk_div, pk_sub, nI_or, nI_shr, nI_shl, nI_and1, nI_leI, nI_ltI, nI_eq, cd_eq, cd_nI, nI_cd, rdA_nI, stA_nI, wrI_1, Option.bind_some, Option.map_some, Option.bind_none, if_true, if_false, w29, w34, e1, r_isSo_f w30 (show w < 2 ^ 31 by omega) (show k < 31 by omega) hs]
          rw [if_neg (by omega), if_neg (by omega)]
      · intro f ⟨⟨z1, z2⟩, ⟨i1, v, i2, i3, i4⟩, e2⟩
        dsimp only at i1 i2
        subst i1 i2
        refine ⟨v, Eq.trans e2 ?_, ?_⟩
        · simp (disch := omega) only [G_M_firstTouch_27, GB_M_firstTouch_27, G_M_firstTouch_186, L_0, L_1, L_2, L_3, L_4, L_5, L_6, L_7, L_8, L_9, L_10, L_11, L_12, L_15, L_16, L_20, L_24, L_26, L_31, L_32, L_42, L_48, L_56, L_57, L_59, L_60, L_97, L_98, L_99, L_104, L_106, L_255, L_300, L_462, L_616, neg1, nI_add, nI_mul, pk_div, pk_sub, nI_or, nI_shr, nI_shl, nI_and1, nI_leI, nI_ltI, nI_eq, cd_eq, cd_nI, nI_cd, rdA_nI, stA_nI, wrI_1, Option.bind_some, Option.map_some, Option.bind_none, if_true, if_false, w29, w34, e1]
          rw [if_pos (by omega)]
        · have hTP : ∀ d, q_TP A w b wet (8 * x + p) e d ↔ ∃ k, k < q_nt A ∧ q_cd A w b (8 * x + p) e k ∧ q_td A k = d := by
            intro d
            constructor
            · intro ⟨_, ⟨o, ho⟩, hk⟩
              rcases ho with ⟨k, c1, c2, c3, c4, c5⟩ | ⟨k, c1, c2, c3, c4, c5⟩
              · exact ⟨k, c1, ⟨c2, Or.inl c3, by rw [c5]; exact hk⟩, c5⟩
              · exact ⟨k, c1, ⟨c2, Or.inr c4, by rw [c5]; exact hk⟩, c5⟩
            · intro ⟨k, c1, ⟨c2, c3, c4⟩, c5⟩
              refine ⟨hw1, ?_, by rw [← c5]; exact c4⟩
              rcases c3 with c3 | c3
              · exact ⟨q_b A k, Or.inl ⟨k, c1, c2, c3, rfl, c5⟩⟩
              · exact ⟨q_a A k, Or.inr ⟨k, c1, c2, rfl, c3, c5⟩⟩
          rcases i4 with ⟨a1, a2⟩ | ⟨k0, a1, a2, a3, a4⟩
          · exact Or.inl ⟨a1, fun d _ z => by obtain ⟨k, c1, c2, _⟩ := (hTP d).mp z; exact a2 k c1 c2⟩
          · have b1 := (hA.2.2.2.2.1 k0 a1).2.2.2.2 (Or.inr a3.1.2)
            have b3 : q_tx A k0 = x := by
              obtain ⟨_, _, c3, c4, _⟩ := q_abst hA a1 (Or.inr a3.1.2)
              rcases a3.2.1 with z | z
              · rw [← c3, z, hs8]
              · rw [← c4, z, hs8]
            rw [b3] at b1
            refine Or.inr ⟨q_td A k0, b1, a2, (hTP _).mpr ⟨k0, a1, a3, rfl⟩, fun d' _ z => ?_⟩
            obtain ⟨k, c1, c2, c3⟩ := (hTP d').mp z
            rw [← c3]
            exact a4 k c1 c2
  obtain ⟨v, kv, kf⟩ := key
  refine ⟨v, ?_, kf⟩
  unfold G_M_firstTouch G_M_firstTouch_22
  by_cases he0 : e = 0
  · rw [if_pos (by rw [he0]; rfl)]
    unfold q_he at kv
    rw [if_pos he0, cd_0] at kv
    exact kv
  · have he1 : e = 1 := by omega
    rw [if_neg (by rw [he1]; decide), r_longOf hR hW ht hA hx, Option.bind_some, r_breaksTo (by omega) ht hG hR hW hx (by omega) (by omega), Option.bind_some]
    unfold q_he at kv
    rw [if_neg he0, cd_0, hs8] at kv
    exact kv
end HRD
