/-! ===== by which PAIRS of the EXCHANGE one is fed: both sides ===== -/
theorem xb_tb (n : Nat) : (lN n).toBitVec = BitVec.ofNat 64 n := rfl
theorem xb_inj {a b : Int64} (h : a.toBitVec = b.toBitVec) : a = b := Int64.toBitVec_inj.mp h
theorem xb_c : ∀ k, k < 64 → ((nI k).toInt64 &&& 63) = lN k := by decide +kernel
theorem xb_sm : ∀ k, k < 64 → (BitVec.ofNat 64 k).smod 64 = BitVec.ofNat 64 k := by decide +kernel
theorem lN_shl (n : Nat) {k : Nat} (hk : k < 64) : lN n <<< ((nI k).toInt64 &&& 63) = lN (n * 2 ^ k) := by
  rw [xb_c k hk]
  apply xb_inj
  rw [Int64.toBitVec_shiftLeft, xb_tb, xb_tb, xb_tb, xb_sm k hk]
  apply BitVec.eq_of_toNat_eq
  rw [BitVec.shiftLeft_eq', BitVec.toNat_shiftLeft, BitVec.toNat_ofNat, BitVec.toNat_ofNat, BitVec.toNat_ofNat, Nat.mod_eq_of_lt (show k < 2 ^ 64 by omega), Nat.shiftLeft_eq, Nat.mul_mod, Nat.mod_mod, ← Nat.mul_mod]
theorem lN_or (a b : Nat) : lN a ||| lN b = lN (a ||| b) := by
  apply xb_inj
  rw [Int64.toBitVec_or, xb_tb, xb_tb, xb_tb]
  apply BitVec.eq_of_toNat_eq
  rw [BitVec.toNat_or, BitVec.toNat_ofNat, BitVec.toNat_ofNat, BitVec.toNat_ofNat, Nat.or_mod_two_pow]
theorem L1_64 : (1 : Int64) = lN 1 := rfl
theorem L0_64 : (0 : Int64) = lN 0 := rfl
theorem tb_mul {v f j : Nat} : (v * 2 ^ f).testBit j = true ↔ f ≤ j ∧ v.testBit (j - f) = true := by
  rw [Nat.testBit_mul_two_pow, Bool.and_eq_true, decide_eq_true_eq]
/-- FED: bits of the PAIRS of the EXCHANGE that a TONE at piece v0 comes to -/
def FD (A : AP) (w : Nat) (b : Nat × Nat) (wet v0 v : Nat) : Prop := v < 2 ^ 42 ∧ ∀ j, v.testBit j = true ↔ ∃ c p, c < q_nc A ∧ q_fr A c = 0 ∧ p < q_pr A c ∧ j = q_f0 A c + p ∧ q_R A w b wet v0 (16 * (8 * c + p))
theorem FD_u {A : AP} {w wet v0 v v' : Nat} {b : Nat × Nat} (h : FD A w b wet v0 v) (h' : FD A w b wet v0 v') : v = v' := by
  apply Nat.eq_of_testBit_eq
  intro j
  rw [Bool.eq_iff_iff]
  exact (h.2 j).trans (h'.2 j).symm
theorem q_f0_le {A : AP} (hA : WF A) : ∀ c, c ≤ q_nc A → q_f0 A c ≤ 6 * c := by
  intro c
  induction c with
  | zero => intro _; exact Nat.le_refl 0
  | succ c ih =>
    intro h
    have := ih (by omega)
    have hx := hA.2.1 c (by omega)
    simp only [q_f0]
    split <;> omega
theorem vat_no {n : Nat} {f : Nat → Int32} {i : Int32} (hn : n < 2 ^ 31) (hj : ¬ okn n i) : vat n f i = -1 := by
  show (if i < 0 then -1 else if nI n ≤ i then -1 else f i.toNatClampNeg) = -1
  rcases okn_not hn hj with h6 | h6
  · rw [if_pos h6]
  · by_cases h7 : i < 0
    · rw [if_pos h7]
    · rw [if_neg h7, if_pos h6]
section FDR
variable {N t w wet : Nat} {s : mst} {A : AP} {b : Nat × Nat}
theorem r_feeds (hN : 1000 ≤ N) (ht : t < 6) (hG : GW A w b wet) (hR : RP s t A) (hW : RW s t A w b wet) {x n : Nat} (hx : x < q_nc A) (hn : n < q_pr A x) : ∃ v s', G_M_feeds N s (nI x) (nI n) = some (lN v, s') ∧ Md [109] [] s s' ∧ FD A w b wet (q_nd A w b (8 * x + n) 1) v := by
  have hA := hG.1
  have hc := hA.1
  unfold WFc at hc
  obtain ⟨hst, _, _⟩ := st_mk hA hx hn
  obtain ⟨s3, f1, m3, so3⟩ := r_sound hN ht hG hR hW (q_nd_ok hG (e := 1) hst)
  have R3 : RP s3 t A := RP_md hR m3 (by decide)
  have W3 : RW s3 t A w b wet := RW_md hW m3 (by decide) (by decide)
  have e0 := W3.1
  have e1 := rp_nc R3
  generalize hv0 : q_nd A w b (8 * x + n) 1 = v0 at *
  unfold G_M_feeds
  rw [r_far (by omega) ht hG hR hW hx hn, hv0, Option.bind_some]
  dsimp only
  rw [f1, Option.bind_some]
  refine Exists.elim (lpE (F := fun f c (q : Int64 × Int32 × mst) => G_M_feeds_18 N f q.1 q.2.1 (nI c) q.2.2) (n := q_nc A) (I := fun c q => q.2.2 = s3 ∧ q.2.1 = nI (q_f0 A c) ∧ ∃ v, q.1 = lN v ∧ v < 2 ^ 42 ∧ ∀ j, v.testBit j = true ↔ ∃ c' p, c' < c ∧ q_fr A c' = 0 ∧ p < q_pr A c' ∧ j = q_f0 A c' + p ∧ q_R A w b wet v0 (16 * (8 * c' + p))) ?_ N 0 (lN 0, nI 0, s3) (by omega) (by omega) ⟨rfl, rfl, 0, rfl, by decide, fun j => by rw [Nat.zero_testBit]; exact ⟨fun h => absurd h (by decide), fun ⟨c', p, h, _⟩ => by omega⟩⟩) ?_
  · intro f c ⟨q1, q2, q3⟩ hcc ⟨i1, i2, v, i3, i4, i5⟩
    dsimp only at i1 i2 i3
    subst i1 i2 i3
    have hxx := hA.2.1 c hcc
    have e2 := rp_fr R3 hcc
    have e3 := rp_pr R3 hcc
    have hf0 := q_f0_le hA c (by omega)
    have hst18 : G_M_feeds_18 N (f + 1) (lN v) (nI (q_f0 A c)) (nI c) q3 = if nI (q_fr A c) = 0 then G_M_feeds_56 N (G_M_feeds_18 N f) (nI c) N (lN v) (nI (q_f0 A c)) 0 q3 else G_M_feeds_18 N f (lN v) (nI (q_f0 A c)) (nI (c + 1)) q3 := by
      show GB_M_feeds_18 N (G_M_feeds_18 N f) (lN v) (nI (q_f0 A c)) (nI c) q3 = _
      unfold GB_M_feeds_18 G_M_feeds_112
      rw [e0, rdA_nI (by omega) (by decide), Option.bind_some, e1, if_neg (nI_ge hcc (by omega)), L_7, nI_mul, nI_add, rdA_nI (by omega) (by decide), Option.bind_some, e2, nI_1]
    by_cases h0c : q_fr A c = 0
    · have hinner : ∃ v', G_M_feeds_56 N (G_M_feeds_18 N f) (nI c) N (lN v) (nI (q_f0 A c)) (nI 0) q3 = G_M_feeds_18 N f (lN v') (nI (q_f0 A c + q_pr A c)) (nI (c + 1)) q3 ∧ v' < 2 ^ 42 ∧ ∀ j, v'.testBit j = true ↔ v.testBit j = true ∨ ∃ p, p < q_pr A c ∧ j = q_f0 A c + p ∧ q_R A w b wet v0 (16 * (8 * c + p)) := by
        refine Exists.elim (lpE (F := fun g p (q : Int64 × Int32 × mst) => G_M_feeds_56 N (G_M_feeds_18 N f) (nI c) g q.1 q.2.1 (nI p) q.2.2) (n := q_pr A c) (I := fun p q => q.2.2 = q3 ∧ q.2.1 = nI (q_f0 A c + p) ∧ ∃ v', q.1 = lN v' ∧ v' < 2 ^ 42 ∧ ∀ j, v'.testBit j = true ↔ v.testBit j = true ∨ ∃ p', p' < p ∧ j = q_f0 A c + p' ∧ q_R A w b wet v0 (16 * (8 * c + p'))) ?_ N 0 (lN v, nI (q_f0 A c), q3) (by omega) (by omega) ⟨rfl, rfl, v, rfl, i4, fun j => ⟨Or.inl, fun h => h.resolve_right (fun ⟨p', h1, _⟩ => by omega)⟩⟩) ?_
        · intro g p ⟨y1, y2, y3⟩ hp ⟨j1, j2, v', j3, j4, j5⟩
          dsimp only at j1 j2 j3
          subst j1 j2 j3
          obtain ⟨hst2, _, _⟩ := st_mk hA hcc hp
          have ho : nok A (16 * (8 * c + p)) := nok_mk (i := 0) hst2 (by omega)
          have hl := nm_lt hA ho
          have hst56 : G_M_feeds_56 N (G_M_feeds_18 N f) (nI c) (g + 1) (lN v') (nI (q_f0 A c + p)) (nI p) y3 = if y3.1 109 (nm (16 * (8 * c + p))) = 0 then G_M_feeds_56 N (G_M_feeds_18 N f) (nI c) g (lN v' ||| 0) (nI (q_f0 A c + p + 1)) (nI (p + 1)) y3 else G_M_feeds_56 N (G_M_feeds_18 N f) (nI c) g (lN v' ||| lN (2 ^ (q_f0 A c + p))) (nI (q_f0 A c + p + 1)) (nI (p + 1)) y3 := by
            show GB_M_feeds_56 N (G_M_feeds_18 N f) (G_M_feeds_56 N (G_M_feeds_18 N f) (nI c) g) (nI c) (lN v') (nI (q_f0 A c + p)) (nI p) y3 = _
            unfold GB_M_feeds_56 G_M_feeds_101
            rw [e0, L_7, nI_mul, nI_add, rdA_nI (by omega) (by decide), Option.bind_some, e3, if_neg (nI_ge hp (by omega)), r_near (by omega), Option.bind_some]
            dsimp only
            rw [rdA_nI hl (by decide), Option.bind_some, nI_1, nI_1, L1_64, lN_shl 1 (by omega), Nat.one_mul]
          rcases so3 _ ho with ⟨a1, a2⟩ | ⟨a1, a2⟩
          · refine ⟨(lN (v' ||| 2 ^ (q_f0 A c + p)), nI (q_f0 A c + p + 1), y3), ⟨rfl, rfl, v' ||| 2 ^ (q_f0 A c + p), rfl, lt_or2 j4 (by omega), fun j => ?_⟩, hst56.trans ?_⟩
            · rw [tb_or2, j5 j]
              constructor
              · intro h
                rcases h with (h | ⟨p', h1, h2, h3⟩) | h
                · exact Or.inl h
                · exact Or.inr ⟨p', by omega, h2, h3⟩
                · exact Or.inr ⟨p, by omega, h, a2⟩
              · intro h
                rcases h with h | ⟨p', h1, h2, h3⟩
                · exact Or.inl (Or.inl h)
                · by_cases hpp : p' = p
                  · exact Or.inr (by omega)
                  · exact Or.inl (Or.inr ⟨p', by omega, h2, h3⟩)
            · rw [a1, if_neg (by decide), lN_or]
          · refine ⟨(lN v', nI (q_f0 A c + p + 1), y3), ⟨rfl, rfl, v', rfl, j4, fun j => ?_⟩, hst56.trans ?_⟩
            · rw [j5 j]
              constructor
              · intro h
                rcases h with h | ⟨p', h1, h2, h3⟩
                · exact Or.inl h
                · exact Or.inr ⟨p', by omega, h2, h3⟩
              · intro h
                rcases h with h | ⟨p', h1, h2, h3⟩
                · exact Or.inl h
                · by_cases hpp : p' = p
                  · rw [hpp] at h3; exact absurd h3 a2
                  · exact Or.inr ⟨p', by omega, h2, h3⟩
            · rw [a1, if_pos nI_0, L0_64, lN_or, Nat.or_zero]
        · intro g ⟨⟨y1, y2, y3⟩, ⟨j1, j2, v', j3, j4, j5⟩, ee⟩
          dsimp only at j1 j2 j3 ee
          subst j1 j2 j3
          refine ⟨v', Eq.trans ee ?_, j4, j5⟩
          show GB_M_feeds_56 N (G_M_feeds_18 N f) (G_M_feeds_56 N (G_M_feeds_18 N f) (nI c) g) (nI c) (lN v') (nI (q_f0 A c + q_pr A c)) (nI (q_pr A c)) y3 = _
          unfold GB_M_feeds_56 G_M_feeds_112
          rw [e0, L_7, nI_mul, nI_add, rdA_nI (by omega) (by decide), Option.bind_some, e3, if_pos (nI_le (Nat.le_refl _) (by omega)), nI_1]
      obtain ⟨v', g1, g2, g3⟩ := hinner
      refine ⟨(lN v', nI (q_f0 A (c + 1)), q3), ⟨rfl, rfl, v', rfl, g2, fun j => ?_⟩, hst18.trans ?_⟩
      · rw [g3 j, i5 j]
        constructor
        · intro h
          rcases h with ⟨c', p', h1, h2⟩ | ⟨p', h1, h2, h3⟩
          · exact ⟨c', p', by omega, h2⟩
          · exact ⟨c, p', by omega, h0c, h1, h2, h3⟩
        · intro ⟨c', p', h1, h2, h3, h4, h5⟩
          by_cases hcc2 : c' = c
          · subst hcc2; exact Or.inr ⟨p', h3, h4, h5⟩
          · exact Or.inl ⟨c', p', by omega, h2, h3, h4, h5⟩
      · rw [h0c, if_pos nI_0, L_0, g1]
        simp only [q_f0, if_pos h0c]
    · refine ⟨(lN v, nI (q_f0 A (c + 1)), q3), ⟨rfl, rfl, v, rfl, i4, fun j => ?_⟩, hst18.trans ?_⟩
      · rw [i5 j]
        constructor
        · intro ⟨c', p', h1, h2⟩
          exact ⟨c', p', by omega, h2⟩
        · intro ⟨c', p', h1, h2, h3⟩
          by_cases hcc2 : c' = c
          · subst hcc2; exact absurd h2 h0c
          · exact ⟨c', p', by omega, h2, h3⟩
      · rw [if_neg (nI_ne0 (by omega) (by omega))]
        simp only [q_f0, if_neg h0c, Nat.add_zero]
  · intro f ⟨⟨q1, q2, q3⟩, ⟨i1, i2, v, i3, i4, i5⟩, ee⟩
    dsimp only at i1 i2 i3 ee
    subst i1 i2 i3
    refine ⟨v, q3, Eq.trans ee ?_, m3, i4, i5⟩
    show GB_M_feeds_18 N (G_M_feeds_18 N f) (lN v) (nI (q_f0 A (q_nc A))) (nI (q_nc A)) q3 = _
    unfold GB_M_feeds_18 G_M_feeds_118
    rw [e0, rdA_nI (by omega) (by decide), Option.bind_some, e1, if_pos (nI_le (Nat.le_refl _) (by omega))]
end FDR
section FDC
variable {h0 : Nat → pm_C} {B : Nat} {D : Nat → pd} {hi z : Nat} {s : mst} {N P : Nat} {A : AP} {w wet : Nat} {b : Nat × Nat}
theorem c_comesTo (hf : FX D hi) {y e : Nat} (hy : y < 7) (he : e < 2) : F_Tone_comesTo N (mkM h0 B D hi z s) (B + 47) (nI y) (nI e) = some (s.1 (50 + e) y, (mkM h0 B D hi z s)) := by
  rw [sg_Tone_comesTo hf]
  unfold G_Tone_comesTo G_Tone_comesTo_15 G_Tone_comesTo_15_2
  have : e = 0 ∨ e = 1 := by omega
  rcases this with rfl | rfl
  · rw [if_pos nI_0, vat_nI hy (by decide)]
    rfl
  · rw [if_neg (by decide), vat_nI hy (by decide)]
    rfl
theorem c_feeders (hN : 1000 ≤ N) (hf : FX D hi) (hp : PL D hi P) (hA : WF A) (hcp : CP s P A) {v0 : Nat} (ht : TO A w b wet v0 s) : ∃ v, F_Tone_feeders N (mkM h0 B D hi z s) (B + 47) (B + P) = some (lN v, (mkM h0 B D hi z s)) ∧ FD A w b wet v0 v := by
  have hc := hA.1
  unfold WFc at hc
  unfold F_Tone_feeders
  rw [rcm_47 hf, if_pos rfl]
  refine Exists.elim (lpE (F := fun f c (q : Int64 × mst) => F_Tone_feeders_5 N (B + 47) (B + P) f q.1 (nI c) (mkM h0 B D hi z (q.2))) (n := q_nc A) (I := fun c q => q.2 = s ∧ ∃ v, q.1 = lN v ∧ v < 2 ^ 42 ∧ ∀ j, v.testBit j = true ↔ ∃ c' p, c' < c ∧ q_fr A c' = 0 ∧ p < q_pr A c' ∧ j = q_f0 A c' + p ∧ q_R A w b wet v0 (16 * (8 * c' + p))) ?_ N 0 (lN 0, s) (by omega) (by omega) ⟨rfl, 0, rfl, by decide, fun j => by rw [Nat.zero_testBit]; exact ⟨fun h => absurd h (by decide), fun ⟨c', p, h, _⟩ => by omega⟩⟩) ?_
  · intro f c ⟨q1, q2⟩ hcc ⟨i1, v, i3, i4, i5⟩
    dsimp only at i1 i3
    subst i1 i3
    have hxx := hA.2.1 c hcc
    have hf0 := q_f0_le hA c (by omega)
    obtain ⟨v', t1, t2⟩ := ht c 0 hcc (by omega)
    have hst : F_Tone_feeders_5 N (B + 47) (B + P) (f + 1) (lN v) (nI c) (mkM h0 B D hi z (q2)) = if nI (q_fr A c) = 0 then F_Tone_feeders_5 N (B + 47) (B + P) f (lN v ||| lN (v' * 2 ^ q_f0 A c)) (nI (c + 1)) (mkM h0 B D hi z (q2)) else F_Tone_feeders_5 N (B + 47) (B + P) f (lN v) (nI (c + 1)) (mkM h0 B D hi z (q2)) := by
      show B_Tone_feeders_5 N (F_Tone_feeders_5 N (B + 47) (B + P) f) (B + 47) (B + P) (lN v) (nI c) (mkM h0 B D hi z (q2)) = _
      unfold B_Tone_feeders_5 F_Tone_feeders_48
      rw [pl_1 hp]
      dsimp only [Option.bind_some]
      rw [c_size (pl_L1 hp), hcp.1.2.1]
      dsimp only [Option.bind_some]
      rw [if_neg (nI_ge hcc (by omega)), L_0, c_boxAt hp hcp hA hcc (by omega)]
      dsimp only [Option.bind_some]
      rw [if_pos rfl, c_comesTo hf (by omega) (by omega), t1]
      dsimp only [Option.bind_some]
      rw [pl_3 hp]
      dsimp only [Option.bind_some]
      rw [ar_v (pl_A4 hp), vat_nI (by omega) (by decide), hcp.2.1.1 c hcc]
      dsimp only [Option.bind_some]
      rw [nI_l (show v' < 2 ^ 31 by have := t2.1; omega), lN_shl _ (by omega), nI_1]
    by_cases h0c : q_fr A c = 0
    · have hv' : v' * 2 ^ q_f0 A c < 2 ^ 42 := by
        have h1 : v' < 2 ^ q_pr A c ∨ True := Or.inr trivial
        have h2 : q_f0 A c ≤ 36 := by omega
        have h3 : (2 : Nat) ^ q_f0 A c ≤ 2 ^ 36 := Nat.pow_le_pow_right (by decide) h2
        have h4 := t2.1
        calc v' * 2 ^ q_f0 A c ≤ v' * 2 ^ 36 := Nat.mul_le_mul_left _ h3
          _ < 2 ^ 42 := by omega
      refine ⟨(lN (v ||| v' * 2 ^ q_f0 A c), q2), ⟨rfl, _, rfl, Nat.or_lt_two_pow i4 hv', fun j => ?_⟩, hst.trans ?_⟩
      · rw [Nat.testBit_or, Bool.or_eq_true, i5 j, tb_mul, t2.2]
        constructor
        · intro h
          rcases h with ⟨c', p', h1, h2⟩ | ⟨h1, h2, h3⟩
          · exact ⟨c', p', by omega, h2⟩
          · refine ⟨c, j - q_f0 A c, by omega, h0c, h2, by omega, ?_⟩
            unfold q_nd at h3
            rw [if_pos rfl] at h3
            exact h3
        · intro ⟨c', p', h1, h2, h3, h4, h5⟩
          by_cases hcc2 : c' = c
          · subst hcc2
            refine Or.inr ⟨by omega, by omega, ?_⟩
            unfold q_nd
            rw [if_pos rfl, show j - q_f0 A c' = p' by omega]
            exact h5
          · exact Or.inl ⟨c', p', by omega, h2, h3, h4, h5⟩
      · rw [h0c, if_pos nI_0, lN_or]
    · refine ⟨(lN v, q2), ⟨rfl, v, rfl, i4, fun j => ?_⟩, hst.trans ?_⟩
      · rw [i5 j]
        constructor
        · intro ⟨c', p', h1, h2⟩
          exact ⟨c', p', by omega, h2⟩
        · intro ⟨c', p', h1, h2, h3⟩
          by_cases hcc2 : c' = c
          · subst hcc2; exact absurd h2 h0c
          · exact ⟨c', p', by omega, h2, h3⟩
      · rw [if_neg (nI_ne0 (by omega) (by omega))]
  · intro f ⟨⟨q1, q2⟩, ⟨i1, v, i3, i4, i5⟩, ee⟩
    dsimp only at i1 i3 ee
    subst i1 i3
    refine ⟨v, Eq.trans ee ?_, i4, i5⟩
    show B_Tone_feeders_5 N (F_Tone_feeders_5 N (B + 47) (B + P) f) (B + 47) (B + P) (lN v) (nI (q_nc A)) (mkM h0 B D hi z (q2)) = _
    unfold B_Tone_feeders_5 F_Tone_feeders_54
    rw [pl_1 hp]
    dsimp only [Option.bind_some]
    rw [c_size (pl_L1 hp), hcp.1.2.1]
    dsimp only [Option.bind_some]
    rw [if_pos (nI_le (Nat.le_refl _) (by omega))]
theorem c_feedersOf (hN : 1000 ≤ N) (hf : FX D hi) (hp : PL D hi P) (hG : GW A w b wet) (hb : GB A b) (hP : P = 58 ∨ 130 ≤ P) (hPb : P + 30 < 2 ^ 31) (hcp : CP s P A) (h : CW D hi s A w b P) {u : Nat} (hu : q_st A u) : ∃ v s', F_Bench_feedersOf N (mkM h0 B D hi z s) (B + 5) (nI u) (nI wet) = some (lN v, (mkM h0 B D hi z (s'))) ∧ Fm (fun q => 47 ≤ q ∧ q ≤ 51) s s' ∧ FD A w b wet (q_nd A w b u 1) v := by
  obtain ⟨s1, e1, m1, t1⟩ := c_send (N := N) (h0 := h0) (B := B) (z := z) hN hf hG hb hP hPb h hu (show 1 < 2 by omega)
  have hcp1 : CP s1 P A := CP_fm hcp m1 (fun k h1 h2 => by omega)
  have hW1 : CW D hi s1 A w b P := CW_fm h m1 hP (fun q hq2 hh => by omega)
  obtain ⟨v, e2, f2⟩ := c_feeders (N := N) (h0 := h0) (B := B) (z := z) hN hf hp hG.1 hcp1 t1
  have hrof : rof B (s1.1 6 9) = some (B + P) := by rw [hW1.1]; exact rof_nI (by omega)
  refine ⟨v, s1, ?_, m1, f2⟩
  unfold F_Bench_feedersOf
  rw [rcm_5 hf, if_pos rfl, rdm_5_1 hf]
  dsimp only [Option.bind_some]
  rw [rdm_5_0 hf]
  dsimp only [Option.bind_some]
  rw [L_1, e1]
  dsimp only [Option.bind_some]
  rw [rdm_5_1 hf]
  dsimp only [Option.bind_some]
  rw [rdm_5_0 hf]
  dsimp only [Option.bind_some]
  rw [o6_9 hf, hrof]
  dsimp only [Option.bind_some]
  rw [e2]
  rfl
theorem c_homeOf (hf : FX D hi) (hA : WF A) (h : CW D hi s A w b P) (hPb : P + 30 < 2 ^ 31) {j : Nat} (hj : j < 10) : F_Wires_homeOf N (mkM h0 B D hi z s) (B + 6) (nI j) = some (cd (q_hm A w j), (mkM h0 B D hi z s)) := by
  obtain ⟨h1, ⟨Y, h2, h3, h4, h5⟩, _⟩ := h
  have hrof : rof B (s.1 6 10) = some (B + Y) := by rw [h2]; exact rof_nI (by omega)
  unfold F_Wires_homeOf
  rw [rcm_6 hf, if_pos rfl, o6_10 hf, hrof]
  dsimp only [Option.bind_some]
  rw [yt_3 h4]
  dsimp only [Option.bind_some]
  rw [ar_v h4.2.2.2.2.2, vat_nI hj (by decide), h5.2 j hj]
  rfl
theorem c_homeOf_n (hf : FX D hi) (h : CW D hi s A w b P) (hPb : P + 30 < 2 ^ 31) {i : Int32} (hj : ¬ okn 10 i) : F_Wires_homeOf N (mkM h0 B D hi z s) (B + 6) i = some (-1, (mkM h0 B D hi z s)) := by
  obtain ⟨h1, ⟨Y, h2, h3, h4, h5⟩, _⟩ := h
  have hrof : rof B (s.1 6 10) = some (B + Y) := by rw [h2]; exact rof_nI (by omega)
  have hv : vat 10 (s.1 (Y + 4)) i = -1 := vat_no (by decide) hj
  unfold F_Wires_homeOf
  rw [rcm_6 hf, if_pos rfl, o6_10 hf, hrof]
  dsimp only [Option.bind_some]
  rw [yt_3 h4]
  dsimp only [Option.bind_some]
  rw [ar_v h4.2.2.2.2.2, hv]
  rfl
end FDC
