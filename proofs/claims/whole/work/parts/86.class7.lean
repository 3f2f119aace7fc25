/-! ===== the class's TONE comes just where it can ===== -/
section SND2
variable {h0 : Nat → pm_C} {B : Nat} {D : Nat → pd} {hi z : Nat} {s : mst} {N P : Nat} {A : AP} {w wet v0 k : Nat} {b : Nat × Nat} {Ex : Nat → Prop}
theorem c_goAcross (hN : 100 ≤ N) (hf : FX D hi) (hG : GW A w b wet) (hw1 : wet = 1) (hP : P = 58 ∨ 130 ≤ P) (h : CW D hi s A w b P) {v : Nat} (hJ : TJ A w b wet v0 Ex k s) (hv : nok A v) (hq : q_R A w b wet v0 v) : ∃ s', F_Tone_goAcross N (mkM h0 B D hi z s) (B + 47) (B + 6) (nI (v / 16)) (nI (v % 16)) = some (mkM h0 B D hi z (s')) ∧ TJ A w b wet v0 Ex k s' ∧ tG s s' ∧ (∀ x y d c, q_TT A w x y d → (v = 16 * x + q_nk A w b x d → c = 16 * y + q_nk A w b y d → tR s' c) ∧ (v = 16 * y + q_nk A w b y d → c = 16 * x + q_nk A w b x d → tR s' c)) := by
  have hA := hG.1
  obtain ⟨l1, l2, l3⟩ := nok_lt hA hv
  obtain ⟨n, ta, tb, tm, t1, t2, t3, t4⟩ := h.2.2.2.2
  have r17 : AR D hi 17 10 := ar_fx hf (by decide) (fx_17 hf) (by decide)
  have r18 : AR D hi 18 10 := ar_fx hf (by decide) (fx_18 hf) (by decide)
  have r19 : AR D hi 19 10 := ar_fx hf (by decide) (fx_19 hf) (by decide)
  unfold F_Tone_goAcross
  rw [rcm_47 hf, if_pos rfl]
  refine Exists.elim (lpE (F := fun f i s => F_Tone_goAcross_3 N (B + 47) (B + 6) (nI (v / 16)) (nI (v % 16)) f (nI i) (mkM h0 B D hi z s)) (n := n) (I := fun i s' => TJ A w b wet v0 Ex k s' ∧ tG s s' ∧ ∀ j, j < i → (v = 16 * ta j + q_nk A w b (ta j) (tm j) → tR s' (16 * tb j + q_nk A w b (tb j) (tm j))) ∧ (v = 16 * tb j + q_nk A w b (tb j) (tm j) → tR s' (16 * ta j + q_nk A w b (ta j) (tm j)))) ?_ N 0 s (by omega) (by omega) ⟨hJ, tG_r, fun j hj => by omega⟩) ?_
  · intro f i s1 hi' ⟨J1, G1, B1⟩
    obtain ⟨a1, a2, a3, a4, a5, a6⟩ := t3 i hi'
    have hW1 : CW D hi s1 A w b P := CW_fm h G1.2.2 hP (fun q hq2 hh => by omega)
    have q12 : s1.1 6 12 = nI n := by rw [G1.2.2.1 6 (by omega)]; exact t2
    have q17 : s1.1 17 i = nI (ta i) := by rw [G1.2.2.1 17 (by omega)]; exact a1
    have q18 : s1.1 18 i = nI (tb i) := by rw [G1.2.2.1 18 (by omega)]; exact a2
    have q19 : s1.1 19 i = nI (tm i) := by rw [G1.2.2.1 19 (by omega)]; exact a3
    have hTT : q_TT A w (ta i) (tb i) (tm i) := (t4 _ _ _).mpr ⟨i, hi', rfl, rfl, rfl⟩
    have hE : q_E A w b wet (16 * ta i + q_nk A w b (ta i) (tm i)) (16 * tb i + q_nk A w b (tb i) (tm i)) := Or.inr ⟨hw1, _, _, _, hTT, rfl, rfl⟩
    obtain ⟨no1, no2⟩ := q_E_nok hG hE
    have na : q_nk A w b (ta i) (tm i) ≤ 10 := nk10 hG
    have nb : q_nk A w b (tb i) (tm i) ≤ 10 := nk10 hG
    have second : ∀ (s2 : mst), TJ A w b wet v0 Ex k s2 → CW D hi s2 A w b P → ∃ s3, F_Tone_goAcross_77 N (F_Tone_goAcross_3 N (B + 47) (B + 6) (nI (v / 16)) (nI (v % 16)) f) (B + 47) (B + 6) (nI (v / 16)) (nI (v % 16)) (nI i) (nI (ta i)) (nI (tb i)) (nI (tm i)) (mkM h0 B D hi z (s2)) = F_Tone_goAcross_3 N (B + 47) (B + 6) (nI (v / 16)) (nI (v % 16)) f (nI (i + 1)) (mkM h0 B D hi z (s3)) ∧ TJ A w b wet v0 Ex k s3 ∧ tG s2 s3 ∧ (v = 16 * tb i + q_nk A w b (tb i) (tm i) → tR s3 (16 * ta i + q_nk A w b (ta i) (tm i))) := by
      intro s2 J2 W2
      unfold F_Tone_goAcross_77 F_Tone_goAcross_109
      rw [nI_1]
      by_cases c1 : tb i = v / 16
      · rw [if_pos (by rw [c1]), c_pieceAt (by omega) hf W2.2.2.2.1 a5 a6]
        dsimp only [Option.bind_some]
        by_cases c2 : q_nk A w b (tb i) (tm i) = v % 16
        · have hvv : v = 16 * tb i + q_nk A w b (tb i) (tm i) := by omega
          rw [if_pos (by rw [c2]), c_pieceAt (by omega) hf W2.2.2.2.1 a4 a6]
          dsimp only [Option.bind_some]
          rw [← hvv] at hE
          obtain ⟨s3, e3, J3, R3, K3⟩ := c_come (N := N) (h0 := h0) (B := B) (z := z) hf hA J2 no1 ((q_R_E hE).mpr hq)
          rw [show (16 * ta i + q_nk A w b (ta i) (tm i)) / 16 = ta i by omega, show (16 * ta i + q_nk A w b (ta i) (tm i)) % 16 = q_nk A w b (ta i) (tm i) by omega] at e3
          rw [e3]
          exact ⟨s3, rfl, J3, tG_k K3, fun _ => R3⟩
        · rw [if_neg (fun e => c2 ((nI_eq (by omega) (by omega)).mp e))]
          exact ⟨s2, rfl, J2, tG_r, fun e => absurd (by omega) c2⟩
      · rw [if_neg (fun e => c1 ((nI_eq (by omega) (by omega)).mp e))]
        exact ⟨s2, rfl, J2, tG_r, fun e => absurd (by omega) c1⟩
    have first : ∃ s2, F_Tone_goAcross_3 N (B + 47) (B + 6) (nI (v / 16)) (nI (v % 16)) (f + 1) (nI i) (mkM h0 B D hi z (s1)) = F_Tone_goAcross_77 N (F_Tone_goAcross_3 N (B + 47) (B + 6) (nI (v / 16)) (nI (v % 16)) f) (B + 47) (B + 6) (nI (v / 16)) (nI (v % 16)) (nI i) (nI (ta i)) (nI (tb i)) (nI (tm i)) (mkM h0 B D hi z (s2)) ∧ TJ A w b wet v0 Ex k s2 ∧ tG s1 s2 ∧ (v = 16 * ta i + q_nk A w b (ta i) (tm i) → tR s2 (16 * tb i + q_nk A w b (tb i) (tm i))) := by
      have hst : F_Tone_goAcross_3 N (B + 47) (B + 6) (nI (v / 16)) (nI (v % 16)) (f + 1) (nI i) (mkM h0 B D hi z (s1)) = if nI (ta i) = nI (v / 16) then ((F_Wires_pieceAt N (mkM h0 B D hi z (s1)) (B + 6) (nI (ta i)) (nI (tm i))).bind fun (v12, S11) => if v12 = nI (v % 16) then ((F_Wires_pieceAt N S11 (B + 6) (nI (tb i)) (nI (tm i))).bind fun (v14, S13) => (F_Tone_come N S13 (B + 47) (nI (tb i)) v14).bind fun S15 => F_Tone_goAcross_77 N (F_Tone_goAcross_3 N (B + 47) (B + 6) (nI (v / 16)) (nI (v % 16)) f) (B + 47) (B + 6) (nI (v / 16)) (nI (v % 16)) (nI i) (nI (ta i)) (nI (tb i)) (nI (tm i)) S15) else F_Tone_goAcross_77 N (F_Tone_goAcross_3 N (B + 47) (B + 6) (nI (v / 16)) (nI (v % 16)) f) (B + 47) (B + 6) (nI (v / 16)) (nI (v % 16)) (nI i) (nI (ta i)) (nI (tb i)) (nI (tm i)) S11) else F_Tone_goAcross_77 N (F_Tone_goAcross_3 N (B + 47) (B + 6) (nI (v / 16)) (nI (v % 16)) f) (B + 47) (B + 6) (nI (v / 16)) (nI (v % 16)) (nI i) (nI (ta i)) (nI (tb i)) (nI (tm i)) (mkM h0 B D hi z (s1)) := by
        show B_Tone_goAcross_3 N (F_Tone_goAcross_3 N (B + 47) (B + 6) (nI (v / 16)) (nI (v % 16)) f) (B + 47) (B + 6) (nI (v / 16)) (nI (v % 16)) (nI i) (mkM h0 B D hi z (s1)) = _
        unfold B_Tone_goAcross_3
        rw [rdm_6_12 hf, Option.bind_some, q12, if_neg (nI_ge hi' (by omega)), rdm_6_6 hf]
        dsimp only [Option.bind_some]
        rw [ar_v r17, vat_nI (by omega) (by decide), q17]
        dsimp only [Option.bind_some]
        rw [rdm_6_7 hf]
        dsimp only [Option.bind_some]
        rw [ar_v r18, vat_nI (by omega) (by decide), q18]
        dsimp only [Option.bind_some]
        rw [rdm_6_8 hf]
        dsimp only [Option.bind_some]
        rw [ar_v r19, vat_nI (by omega) (by decide), q19]
        rfl
      by_cases c1 : ta i = v / 16
      · by_cases c2 : q_nk A w b (ta i) (tm i) = v % 16
        · have hvv : v = 16 * ta i + q_nk A w b (ta i) (tm i) := by omega
          have hE' := hE
          rw [← hvv] at hE'
          obtain ⟨s3, e3, J3, R3, K3⟩ := c_come (N := N) (h0 := h0) (B := B) (z := z) hf hA J1 no2 ((q_R_E hE').mp hq)
          rw [show (16 * tb i + q_nk A w b (tb i) (tm i)) / 16 = tb i by omega, show (16 * tb i + q_nk A w b (tb i) (tm i)) % 16 = q_nk A w b (tb i) (tm i) by omega] at e3
          refine ⟨s3, hst.trans ?_, J3, tG_k K3, fun _ => R3⟩
          rw [if_pos (by rw [c1]), c_pieceAt (by omega) hf hW1.2.2.2.1 a4 a6]
          dsimp only [Option.bind_some]
          rw [if_pos (by rw [c2]), c_pieceAt (by omega) hf hW1.2.2.2.1 a5 a6]
          dsimp only [Option.bind_some]
          rw [e3]
          rfl
        · refine ⟨s1, hst.trans ?_, J1, tG_r, fun e => absurd (by omega) c2⟩
          rw [if_pos (by rw [c1]), c_pieceAt (by omega) hf hW1.2.2.2.1 a4 a6]
          dsimp only [Option.bind_some]
          rw [if_neg (fun e => c2 ((nI_eq (by omega) (by omega)).mp e))]
      · refine ⟨s1, hst.trans ?_, J1, tG_r, fun e => absurd (by omega) c1⟩
        rw [if_neg (fun e => c1 ((nI_eq (by omega) (by omega)).mp e))]
    obtain ⟨s2, e2, J2, G2, B2⟩ := first
    have hW2 : CW D hi s2 A w b P := CW_fm hW1 G2.2.2 hP (fun q hq2 hh => by omega)
    obtain ⟨s3, e3, J3, G3, B3⟩ := second s2 J2 hW2
    refine ⟨s3, ⟨J3, tG_t G1 (tG_t G2 G3), fun j hj => ?_⟩, e2.trans e3⟩
    by_cases hji : j = i
    · subst hji
      exact ⟨fun e => G3.1 _ (B2 e), B3⟩
    · obtain ⟨b1, b2⟩ := B1 j (by omega)
      exact ⟨fun e => (tG_t G2 G3).1 _ (b1 e), fun e => (tG_t G2 G3).1 _ (b2 e)⟩
  · intro f ⟨s1, ⟨J1, G1, B1⟩, e⟩
    refine ⟨s1, e.trans ?_, J1, G1, fun x y d c ht => ?_⟩
    · show B_Tone_goAcross_3 N (F_Tone_goAcross_3 N (B + 47) (B + 6) (nI (v / 16)) (nI (v % 16)) f) (B + 47) (B + 6) (nI (v / 16)) (nI (v % 16)) (nI n) (mkM h0 B D hi z (s1)) = _
      unfold B_Tone_goAcross_3 F_Tone_goAcross_115
      rw [rdm_6_12 hf, Option.bind_some, G1.2.2.1 6 (by omega), t2, if_pos (nI_le (Nat.le_refl _) (by omega))]
    · obtain ⟨i, i1, i2, i3, i4⟩ := (t4 x y d).mp ht
      obtain ⟨b1, b2⟩ := B1 i i1
      rw [i2, i3, i4] at b1 b2
      exact ⟨fun e1 e2 => by rw [e2]; exact b1 e1, fun e1 e2 => by rw [e2]; exact b2 e1⟩
theorem tU_all : ∀ n, (∀ q, ¬ tR s q) → tU s n = n := by
  intro n hq
  induction n with
  | zero => rfl
  | succ n ih =>
    unfold tU
    rw [ih, if_neg (hq _)]
/-- what is heard is as it should be -/
def TO (A : AP) (w : Nat) (b : Nat × Nat) (wet v0 : Nat) (s : mst) : Prop := ∀ y e, y < q_nc A → e < 2 → ∃ v, s.1 (50 + e) y = nI v ∧ HB A w b wet v0 y e v
theorem TO_of (hG : GW A w b wet) {k : Nat} (hJ : TJ A w b wet v0 (fun _ => False) k s) (hv0 : nok A v0) (h1 : tR s v0) (hm : tM s = 0) : TO A w b wet v0 s := by
  have hA := hG.1
  obtain ⟨j1, _, j3, j4, j5, j6, j7⟩ := hJ
  have hD : ∀ v, v < 896 → tR s v → tD A w b wet s v := by
    intro v hv hr
    rcases j5 v hv hr with ⟨i, h2, _⟩ | h2 | h2
    · omega
    · exact h2
    · exact absurd h2 (fun z => z)
  have hR : ∀ v, q_R A w b wet v0 v → tR s v := by
    intro v hq
    refine hq (fun x => tR s x) h1 (fun x y hxy => ?_)
    obtain ⟨n1, n2⟩ := q_E_nok hG hxy
    exact ⟨fun hx => (hD x (nok_lt hA n1).1 hx).1 y (Or.inl hxy), fun hy => (hD y (nok_lt hA n2).1 hy).1 x (Or.inr hxy)⟩
  intro y e hy he
  have hc := hA.1.2.2.1
  have hee : e = 0 ∨ e = 1 := by omega
  have hbits : ∀ j, (nS (s.1 (50 + e) y)).testBit j = true ↔ j < q_pr A y ∧ q_R A w b wet v0 (q_nd A w b (8 * y + j) e) := by
    intro j
    constructor
    · intro hj
      have hg : j < 8 ∧ q_st A (8 * y + j) ∧ q_R A w b wet v0 (q_nd A w b (8 * y + j) e) := by
        rcases hee with rfl | rfl
        · exact (j6 y (by omega) j).1 hj
        · exact (j6 y (by omega) j).2 hj
      obtain ⟨g1, g2, g3⟩ := hg
      have := g2.2
      rw [show (8 * y + j) / 8 = y by omega, show (8 * y + j) % 8 = j by omega] at this
      exact ⟨this, g3⟩
    · intro ⟨g1, g2⟩
      obtain ⟨hst, e1, e2⟩ := st_mk hA hy g1
      have hr := hR _ g2
      have hno := q_nd_ok hG (e := e) hst
      obtain ⟨d1, d2, d3⟩ := hD _ (nok_lt hA hno).1 hr
      rcases hee with rfl | rfl
      · have hnd : q_nd A w b (8 * y + j) 0 = 16 * (8 * y + j) := by unfold q_nd; rw [if_pos rfl]
        rw [hnd] at d2
        have := d2 (by omega)
        rw [show 16 * (8 * y + j) / 16 = 8 * y + j by omega, e1, e2] at this
        exact this
      · have hn : q_nk A w b (q_in A w (8 * y + j)) (q_ln A ((8 * y + j) / 8)) ≤ 10 := nk10 hG
        have hnd : q_nd A w b (8 * y + j) 1 = 16 * q_in A w (8 * y + j) + q_nk A w b (q_in A w (8 * y + j)) (q_ln A ((8 * y + j) / 8)) := by unfold q_nd; rw [if_neg (by decide)]
        rw [hnd] at d3
        rw [show (16 * q_in A w (8 * y + j) + q_nk A w b (q_in A w (8 * y + j)) (q_ln A ((8 * y + j) / 8))) / 16 = q_in A w (8 * y + j) by omega, show (16 * q_in A w (8 * y + j) + q_nk A w b (q_in A w (8 * y + j)) (q_ln A ((8 * y + j) / 8))) % 16 = q_nk A w b (q_in A w (8 * y + j)) (q_ln A ((8 * y + j) / 8)) by omega, (q_in_st hA).2, q_out_in, e1, e2] at d3
        exact d3 rfl
  have hs : s.1 (50 + e) y = nI (nS (s.1 (50 + e) y)) ∧ nS (s.1 (50 + e) y) < 2 ^ 6 := by
    rcases hee with rfl | rfl
    · exact (j1.2.2.2 y (by omega)).1
    · exact (j1.2.2.2 y (by omega)).2
  exact ⟨nS (s.1 (50 + e) y), hs.1, hs.2, hbits⟩
theorem c_send (hN : 1000 ≤ N) (hf : FX D hi) (hG : GW A w b wet) (hb : GB A b) (hP : P = 58 ∨ 130 ≤ P) (hPb : P + 30 < 2 ^ 31) (h : CW D hi s A w b P) {u e : Nat} (hu : q_st A u) (he : e < 2) : ∃ s', F_Tone_send N (mkM h0 B D hi z s) (B + 47) (B + 6) (nI wet) (nI u) (nI e) = some (mkM h0 B D hi z (s')) ∧ Fm (fun q => 47 ≤ q ∧ q ≤ 51) s s' ∧ TO A w b wet (q_nd A w b u e) s' := by
  have hA := hG.1
  have hul := q_st_lt hA hu
  have r48 : AR D hi 48 56 := ar_fx hf (by decide) (fx_48 hf) (by decide)
  have r50 : AR D hi 50 7 := ar_fx hf (by decide) (fx_50 hf) (by decide)
  have r51 : AR D hi 51 7 := ar_fx hf (by decide) (fx_51 hf) (by decide)
  have r49 : AR D hi 49 616 := ar_fx hf (by decide) (fx_49 hf) (by decide)
  unfold F_Tone_send
  rw [rcm_47 hf, if_pos rfl, rdm_47_0 hf]
  dsimp only [Option.bind_some]
  obtain ⟨s1, e1, m1, l1⟩ := c_fill (N := N) (h0 := h0) (B := B) (z := z) (s := s) (x := 0) (by omega) r48
  rw [e1]
  dsimp only [Option.bind_some]
  rw [rdm_47_2 hf]
  dsimp only [Option.bind_some]
  obtain ⟨s2, e2, m2, l2⟩ := c_fill (N := N) (h0 := h0) (B := B) (z := z) (s := s1) (x := 0) (by omega) r50
  rw [e2]
  dsimp only [Option.bind_some]
  rw [rdm_47_3 hf]
  dsimp only [Option.bind_some]
  obtain ⟨s3, e3, m3, l3⟩ := c_fill (N := N) (h0 := h0) (B := B) (z := z) (s := s2) (x := 0) (by omega) r51
  rw [e3]
  dsimp only [Option.bind_some]
  rw [wrm_47_4 hf, wrI_1]
  dsimp only [Option.bind_some]
  generalize hs4 : wr1 s3 47 4 0 = s4
  have m4 : Fm (fun q => 47 ≤ q ∧ q ≤ 51) s s4 := by
    rw [← hs4]
    exact Fm_t (Fm_m m1 (fun q hq => by omega)) (Fm_t (Fm_m m2 (fun q hq => by omega)) (Fm_t (Fm_m m3 (fun q hq => by omega)) (Fm_w (by omega))))
  have q48 : ∀ x, x < 56 → s4.1 48 x = nI 0 := fun x hx => by rw [← hs4, wr1_ne (by decide), m3.1 48 (by omega), m2.1 48 (by omega), l1 x hx]; rfl
  have q50 : ∀ x, x < 7 → s4.1 50 x = nI 0 := fun x hx => by rw [← hs4, wr1_ne (by decide), m3.1 50 (by omega), l2 x hx]; rfl
  have q51 : ∀ x, x < 7 → s4.1 51 x = nI 0 := fun x hx => by rw [← hs4, wr1_ne (by decide), l3 x hx]; rfl
  have q47 : s4.1 47 4 = nI 0 := by rw [← hs4, wr1_at, if_pos rfl]; rfl
  have hM4 : tM s4 = 0 := by unfold tM; rw [q47]; exact nS_nI (by decide)
  have hW4 : CW D hi s4 A w b P := CW_fm h m4 hP (fun q hq2 hh => by omega)
  have hR4 : ∀ v, v / 16 < 56 → ¬ tR s4 v := by
    intro v hv hr
    unfold tR at hr
    rw [q48 _ hv, nS_nI (by decide), Nat.zero_testBit] at hr
    exact absurd hr (by decide)
  have hU4 : tU s4 616 = 616 := by
    have : ∀ n, n ≤ 616 → tU s4 n = n := by
      intro n
      induction n with
      | zero => intro _; rfl
      | succ n ih =>
        intro hn
        unfold tU
        rw [ih (by omega), if_neg (hR4 _ (by omega))]
    exact this 616 (Nat.le_refl _)
  have hv0 := q_nd_ok hG (e := e) hu
  have J4 : TJ A w b wet (q_nd A w b u e) (fun _ => False) 0 s4 := by
    refine ⟨⟨fun x hx => ?_, ?_, fun i hi' => by omega, fun x hx => ?_⟩, trivial, fun v hv hr => absurd hr (hR4 v (by omega)), fun i hi' => by omega, fun v hv hr => absurd hr (hR4 v (by omega)), fun x hx p => ?_, ?_⟩
    · rw [q48 x hx, nS_nI (by decide)]; exact ⟨rfl, by decide⟩
    · rw [hM4]; exact ⟨q47, by omega⟩
    · rw [q50 x hx, q51 x hx, nS_nI (by decide)]; exact ⟨⟨rfl, by decide⟩, ⟨rfl, by decide⟩⟩
    · rw [q50 x hx, q51 x hx, nS_nI (by decide), Nat.zero_testBit]
      exact ⟨fun hh => absurd hh (by decide), fun hh => absurd hh (by decide)⟩
    · rw [hM4, hU4]
  obtain ⟨s5, e5, J5, R5, K5⟩ := c_come (N := N) (h0 := h0) (B := B) (z := z) hf hA J4 hv0 q_R_0
  have hst5 : ((F_Wires_wireAt N (mkM h0 B D hi z (s4)) (B + 6) (nI u) (nI e)).bind fun (v9, S8) => (F_Wires_pieceAtEnd N S8 (B + 6) v9 (nI e)).bind fun (v11, S10) => (F_Tone_come N S10 (B + 47) v9 v11).bind fun S12 => F_Tone_send_55 N (B + 47) (B + 6) (nI wet) N 0 S12) = F_Tone_send_55 N (B + 47) (B + 6) (nI wet) N 0 (mkM h0 B D hi z (s5)) := by
    have hpc := q_nk_99 (u := q_in A w u) hG hb
    rw [(q_in_st hA).2] at hpc
    have hiu := q_st_lt hA ((q_in_st hA (w := w)).1.mpr hu)
    have hn : q_nk A w b (q_in A w u) (q_ln A (u / 8)) ≤ 10 := nk10 hG
    by_cases he0 : e = 0
    · have hwa : F_Wires_wireAt N (mkM h0 B D hi z (s4)) (B + 6) (nI u) (nI e) = some (nI u, (mkM h0 B D hi z (s4))) := by
        rw [sg_Wires_wireAt hf]
        unfold G_Wires_wireAt G_Wires_wireAt_16
        rw [if_pos (by rw [he0]; rfl)]
        rfl
      rw [hwa]
      dsimp only [Option.bind_some]
      rw [(c_pieceAtEnd hf hW4 hul.1).resolve_right (by omega), if_pos he0]
      dsimp only [Option.bind_some]
      unfold q_nd at e5
      rw [if_pos he0, show 16 * u / 16 = u by omega, show 16 * u % 16 = 0 by omega] at e5
      rw [e5]
      rfl
    · have hwa : F_Wires_wireAt N (mkM h0 B D hi z (s4)) (B + 6) (nI u) (nI e) = some (nI (q_in A w u), (mkM h0 B D hi z (s4))) := by
        rw [sg_Wires_wireAt hf]
        unfold G_Wires_wireAt G_Wires_wireAt_16
        rw [if_neg (nI_ne0 (by omega) (by omega)), vat_nI hul.1 (by decide), (hW4.2.2.1 u hul.1).2]
        rfl
      rw [hwa]
      dsimp only [Option.bind_some]
      rw [(c_pieceAtEnd hf hW4 hiu.1).resolve_right (by omega), if_neg he0, hpc]
      dsimp only [Option.bind_some]
      unfold q_nd at e5
      rw [if_neg he0, show (16 * q_in A w u + q_nk A w b (q_in A w u) (q_ln A (u / 8))) / 16 = q_in A w u by omega, show (16 * q_in A w u + q_nk A w b (q_in A w u) (q_ln A (u / 8))) % 16 = q_nk A w b (q_in A w u) (q_ln A (u / 8)) by omega] at e5
      rw [e5]
      rfl
  rw [hst5]
  have m5 : Fm (fun q => 47 ≤ q ∧ q ≤ 51) s s5 := Fm_t m4 (tG_k K5).2.2
  refine Exists.elim (lpQ (F := fun f i s => F_Tone_send_55 N (B + 47) (B + 6) (nI wet) f (nI i) (mkM h0 B D hi z s)) (n := 616) (I := fun i s' => TJ A w b wet (q_nd A w b u e) (fun _ => False) i s' ∧ tR s' (q_nd A w b u e) ∧ Fm (fun q => 47 ≤ q ∧ q ≤ 51) s s') (Q := fun r => ∃ s', r = (mkM h0 B D hi z (s')) ∧ Fm (fun q => 47 ≤ q ∧ q ≤ 51) s s' ∧ TO A w b wet (q_nd A w b u e) s') ?_ ?_ N 0 s5 (by omega) (by omega) ⟨J5, R5, m5⟩) ?_
  · intro f i s6 hi' ⟨J6, R6, m6⟩
    have hmm := J6.1.2.1
    by_cases hm0 : tM s6 = 0
    · right
      refine ⟨_, ⟨s6, rfl, m6, TO_of hG J6 hv0 R6 hm0⟩, ?_⟩
      show B_Tone_send_55 N (F_Tone_send_55 N (B + 47) (B + 6) (nI wet) f) (B + 47) (B + 6) (nI wet) (nI i) (mkM h0 B D hi z (s6)) = _
      unfold B_Tone_send_55 F_Tone_send_134
      rw [L_616, if_neg (nI_ge hi' (by decide)), rdm_47_4 hf, Option.bind_some, hmm.1, hm0, if_pos (by decide)]
    · left
      obtain ⟨j1, j2, j3, j4, j5, j6, j7⟩ := J6
      obtain ⟨w1, w2⟩ := j1.2.2.1 (tM s6 - 1) (by omega)
      generalize hv : tW s6 (tM s6 - 1) = v at w1 w2
      have hvr : tR s6 v := by rw [← hv]; exact j4 (tM s6 - 1) (by omega)
      obtain ⟨hvn, hvq⟩ := j3 v w2 hvr
      generalize hs7 : wr1 s6 47 4 (nI (tM s6 - 1)) = s7
      have h7 : ∀ q, q ≠ 47 → s7.1 q = s6.1 q := fun q hq => by rw [← hs7, wr1_ne hq]
      have h74 : s7.1 47 4 = nI (tM s6 - 1) := by rw [← hs7, wr1_at, if_pos rfl]
      have hM7 : tM s7 = tM s6 - 1 := by unfold tM at hm0 hmm ⊢; rw [h74]; exact nS_nI (by unfold tM; omega)
      have hR7 : ∀ x, tR s7 x ↔ tR s6 x := fun x => by unfold tR; rw [h7 48 (by decide)]
      have hW7 : ∀ x, tW s7 x = tW s6 x := fun x => by unfold tW; rw [h7 49 (by decide)]
      have m7 : Fm (fun q => 47 ≤ q ∧ q ≤ 51) s s7 := Fm_t m6 (by rw [← hs7]; exact Fm_w (by omega))
      have J7 : TJ A w b wet (q_nd A w b u e) (fun x => x = v) (i + 1) s7 := by
        refine ⟨⟨?_, ?_, ?_, ?_⟩, trivial, fun x hx hr => j3 x hx ((hR7 x).mp hr), fun q hq => ?_, fun x hx hr => ?_, ?_, ?_⟩
        · rw [h7 48 (by decide)]; exact j1.1
        · rw [hM7]; exact ⟨h74, by omega⟩
        · intro q hq
          rw [hM7] at hq
          rw [hW7, h7 49 (by decide)]
          exact j1.2.2.1 q (by omega)
        · rw [h7 50 (by decide), h7 51 (by decide)]; exact j1.2.2.2
        · rw [hM7] at hq
          rw [hW7, hR7]
          exact j4 q (by omega)
        · rcases j5 x hx ((hR7 x).mp hr) with ⟨q, g1, g2⟩ | g1 | g1
          · by_cases hq : q = tM s6 - 1
            · rw [hq, hv] at g2
              exact Or.inr (Or.inr g2.symm)
            · exact Or.inl ⟨q, by omega, by rw [hW7]; exact g2⟩
          · exact Or.inr (Or.inl ⟨fun c hc => (hR7 c).mpr (g1.1 c hc), by rw [h7 50 (by decide)]; exact g1.2.1, by rw [h7 51 (by decide)]; exact g1.2.2⟩)
          · exact absurd g1 (fun z => z)
        · rw [h7 50 (by decide), h7 51 (by decide)]; exact j6
        · rw [hM7, tU_eq 616 (fun q _ => hR7 _)]
          omega
      have hW7' : CW D hi s7 A w b P := CW_fm h m7 hP (fun q hq2 hh => by omega)
      obtain ⟨s8, e8, J8, G8, B8, N8, F8⟩ := c_goAlong (N := N) (h0 := h0) (B := B) (z := z) (by omega) hf hG hb hP hPb hW7' J7 hvn hvq
      have hst : F_Tone_send_55 N (B + 47) (B + 6) (nI wet) (f + 1) (nI i) (mkM h0 B D hi z (s6)) = if nI wet = 0 then F_Tone_send_55 N (B + 47) (B + 6) (nI wet) f (nI (i + 1)) (mkM h0 B D hi z (s8)) else (F_Tone_goAcross N (mkM h0 B D hi z (s8)) (B + 47) (B + 6) (nI (v / 16)) (nI (v % 16))).bind fun S22 => F_Tone_send_55 N (B + 47) (B + 6) (nI wet) f (nI (i + 1)) S22 := by
        show B_Tone_send_55 N (F_Tone_send_55 N (B + 47) (B + 6) (nI wet) f) (B + 47) (B + 6) (nI wet) (nI i) (mkM h0 B D hi z (s6)) = _
        unfold B_Tone_send_55 F_Tone_send_128
        rw [L_616, if_neg (nI_ge hi' (by decide)), rdm_47_4 hf, Option.bind_some, hmm.1, if_neg (nI_nle (by omega) (by omega)), Option.bind_some, L_1, pk_sub (by omega), wrm_47_4 hf, wrI_1, hs7, Option.bind_some, rdm_47_1 hf]
        dsimp only [Option.bind_some]
        rw [rdm_47_4 hf, h74]
        dsimp only [Option.bind_some]
        rw [ar_v r49, vat_nI (by omega) (by decide), h7 49 (by decide), w1]
        dsimp only [Option.bind_some]
        rw [L_4, L_31, nI_shr (by omega) (by omega), pk_andN (by omega) 4 (by decide), show v / 2 ^ 4 = v / 16 by omega, show v % 2 ^ 4 = v % 16 by omega, e8, nI_add]
        rfl
      have hfinish : ∀ s9, TJ A w b wet (q_nd A w b u e) (fun x => x = v) (i + 1) s9 → tG s8 s9 → (wet = 1 → ∀ x y d c, q_TT A w x y d → (v = 16 * x + q_nk A w b x d → c = 16 * y + q_nk A w b y d → tR s9 c) ∧ (v = 16 * y + q_nk A w b y d → c = 16 * x + q_nk A w b x d → tR s9 c)) → TJ A w b wet (q_nd A w b u e) (fun _ => False) (i + 1) s9 ∧ tR s9 (q_nd A w b u e) ∧ Fm (fun q => 47 ≤ q ∧ q ≤ 51) s s9 := by
        intro s9 J9 G9 T9
        have hD : tD A w b wet s9 v := by
          refine ⟨fun c hc => ?_, fun e1 => G9.2.1 50 _ _ (Or.inl rfl) (N8 e1), fun e1 => G9.2.1 51 _ _ (Or.inr rfl) (F8 e1)⟩
          rcases hc with hc | hc
          · rcases hc with hc | ⟨hw1, x, y, d, ht, g1, g2⟩
            · exact G9.1 c (B8 c (Or.inl hc))
            · exact (T9 hw1 x y d c ht).1 g1 g2
          · rcases hc with hc | ⟨hw1, x, y, d, ht, g1, g2⟩
            · exact G9.1 c (B8 c (Or.inr hc))
            · exact (T9 hw1 x y d c ht).2 g2 g1
        refine ⟨⟨J9.1, trivial, J9.2.2.1, J9.2.2.2.1, fun x hx hr => ?_, J9.2.2.2.2.2.1, J9.2.2.2.2.2.2⟩, G9.1 _ (G8.1 _ ((hR7 _).mpr R6)), Fm_t m7 (Fm_t G8.2.2 G9.2.2)⟩
        rcases J9.2.2.2.2.1 x hx hr with g1 | g1 | g1
        · exact Or.inl g1
        · exact Or.inr (Or.inl g1)
        · rw [g1]; exact Or.inr (Or.inl hD)
      by_cases hw0 : wet = 0
      · refine ⟨s8, hfinish s8 J8 tG_r (fun hw1 => by omega), hst.trans ?_⟩
        rw [hw0, if_pos nI_0]
      · have hw1 : wet = 1 := by have := hG.2.2.1; omega
        obtain ⟨s9, e9, J9, G9, B9⟩ := c_goAcross (N := N) (h0 := h0) (B := B) (z := z) (by omega) hf hG hw1 hP (CW_fm hW7' G8.2.2 hP (fun q hq2 hh => by omega)) J8 hvn hvq
        refine ⟨s9, hfinish s9 J9 G9 (fun _ => B9), hst.trans ?_⟩
        rw [if_neg (nI_ne0 (by omega) (by omega)), e9]
        rfl
  · intro f s6 ⟨J6, R6, m6⟩
    have hj7 := J6.2.2.2.2.2.2
    refine ⟨_, ⟨s6, rfl, m6, TO_of hG J6 hv0 R6 (by omega)⟩, ?_⟩
    show B_Tone_send_55 N (F_Tone_send_55 N (B + 47) (B + 6) (nI wet) f) (B + 47) (B + 6) (nI wet) (nI 616) (mkM h0 B D hi z (s6)) = _
    unfold B_Tone_send_55 F_Tone_send_134
    rw [if_pos (by decide)]
  · intro r ⟨⟨s6, hr, m6, t6⟩, e6⟩
    subst hr
    exact ⟨s6, e6, m6, t6⟩
end SND2
