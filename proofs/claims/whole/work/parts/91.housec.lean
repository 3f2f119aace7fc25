/-! ===== HOUSES in the class ===== -/
def Fe (K : Nat → Prop) (s s' : mst) : Prop := ∀ k, ¬ K k → s'.1 k = s.1 k
theorem Fe_of {K : Nat → Prop} {s s' : mst} (h : Fm K s s') : Fe K s s' := h.1
theorem Fe_t {K : Nat → Prop} {s s' s'' : mst} (h : Fe K s s') (h' : Fe K s' s'') : Fe K s s'' := fun k hk => (h' k hk).trans (h k hk)
theorem Fe_m {K K' : Nat → Prop} {s s' : mst} (h : Fe K s s') (hK : ∀ k, K k → K' k) : Fe K' s s' := fun k hk => h k (fun z => hk (hK k z))
section HSC
variable {h0 : Nat → pm_C} {B : Nat} {D : Nat → pd} {hi z : Nat} {s : mst} {N P : Nat} {A : AP} {w wet : Nat} {b : Nat × Nat}
theorem CP_fe {s' : mst} {K : Nat → Prop} (h : CP s P A) (hm : Fe K s s') (hK : ∀ k, P ≤ k → k < P + 24 → ¬ K k) : CP s' P A := CP_eq h (fun k h1 h2 => hm k (hK k h1 h2))
theorem CW_fe {s' : mst} {K : Nat → Prop} (h : CW D hi s A w b P) (hm : Fe K s s') (hP : P = 58 ∨ 130 ≤ P) (hK : ∀ q, q = 6 ∨ (8 ≤ q ∧ q ≤ 19) ∨ (P + 10 < q ∧ q ≤ P + 14) → ¬ K q) : CW D hi s' A w b P := by
  have h1 : CW D hi (s'.1, s.2) A w b P := CW_fm h (show Fm K s (s'.1, s.2) from ⟨hm, rfl⟩) hP hK
  exact h1
theorem n52 (hf : FX D hi) : aNS (mkM h0 B D hi z s) (B + 52) = some (nI 10) := by
  obtain ⟨h1, h2⟩ := mk_cell (h0 := h0) (B := B) (c := s.1) (e := s.2) (z := z) (fx_lt hf (show 52 < 130 by decide)) (fx_52 hf)
  have e1 : ps_h (mkM h0 B D hi z s) (B + 52) = tC B (.inl (1, 10)) (s.1 52) (s.2 52) := h1
  have e2 : pm_my (mkM h0 B D hi z s) (B + 52) = true := h2
  unfold aNS aN
  rw [e1]
  show (if (pm_my (mkM h0 B D hi z s) (B + 52) && decide (1 < 6)) = true then some (Int32.ofNat 10) else none) = _
  rw [e2]
  rfl
theorem j52 (hf : FX D hi) {j : Nat} (hj : j < 10) : aJ (mkM h0 B D hi z s) (B + 52) (nI j) = some (s.2 52 j) := by
  have := aj_52 (h0 := h0) (B := B) (c := s.1) (e := s.2) (z := z) hf (pmin hj (by decide))
  rw [nI_clamp (by omega)] at this
  exact this
theorem k52 (hf : FX D hi) {j : Nat} {x : Int64} (hj : j < 10) : sJ (mkM h0 B D hi z s) (B + 52) (nI j) x = some (mkM h0 B D hi z ((s.1, up1 s.2 52 (vp_updL (s.2 52) j x)))) := by
  have := sj_52 (h0 := h0) (B := B) (c := s.1) (e := s.2) (z := z) (x := x) hf (pmin hj (by decide))
  rw [nI_clamp (by omega)] at this
  exact this
theorem c_isShared (hN : 1000 ≤ N) (hf : FX D hi) {fv : Nat → Nat} (hv : ∀ i, i < 10 → s.2 52 i = lN (fv i)) {h : Nat} (hh : h < 10) : (F_Bench_isShared N (mkM h0 B D hi z s) (B + 5) (nI h) = some (0, (mkM h0 B D hi z s)) ∧ ∀ o, o < 10 → ¬ q_shr fv h o) ∨ (F_Bench_isShared N (mkM h0 B D hi z s) (B + 5) (nI h) = some (1, (mkM h0 B D hi z s)) ∧ ∃ o, o < 10 ∧ q_shr fv h o) := by
  unfold F_Bench_isShared
  rw [rcm_5 hf, if_pos rfl]
  refine Exists.elim (lpQ (F := fun f o s => F_Bench_isShared_2 N (B + 5) (nI h) f (nI o) (mkM h0 B D hi z s)) (n := 10) (I := fun o s' => s' = s ∧ ∀ o', o' < o → ¬ q_shr fv h o') (Q := fun r => (r = ((0 : Int32), (mkM h0 B D hi z s)) ∧ ∀ o, o < 10 → ¬ q_shr fv h o) ∨ (r = ((1 : Int32), (mkM h0 B D hi z s)) ∧ ∃ o, o < 10 ∧ q_shr fv h o)) ?_ ?_ N 0 s (by omega) (by omega) ⟨rfl, fun o' ho' => by omega⟩) ?_
  · intro f o s' ho ⟨i1, i2⟩
    subst i1
    have hst : F_Bench_isShared_2 N (B + 5) (nI h) (f + 1) (nI o) (mkM h0 B D hi z (s')) = if nI o = nI h then F_Bench_isShared_2 N (B + 5) (nI h) f (nI (o + 1)) (mkM h0 B D hi z (s')) else if lN (fv o) &&& lN (fv h) = 0 then F_Bench_isShared_2 N (B + 5) (nI h) f (nI (o + 1)) (mkM h0 B D hi z (s')) else some (1, (mkM h0 B D hi z (s'))) := by
      show B_Bench_isShared_2 N (F_Bench_isShared_2 N (B + 5) (nI h) f) (B + 5) (nI h) (nI o) (mkM h0 B D hi z (s')) = _
      unfold B_Bench_isShared_2 F_Bench_isShared_49 F_Bench_isShared_47
      rw [rdm_5_2 hf]
      dsimp only [Option.bind_some]
      rw [n52 hf]
      dsimp only [Option.bind_some]
      rw [if_neg (nI_ge ho (by decide)), if_neg (nI_pos (by omega)), if_neg (nI_ge hh (by decide)), j52 hf ho]
      dsimp only [Option.bind_some]
      rw [j52 hf hh]
      dsimp only [Option.bind_some]
      rw [hv o ho, hv h hh, nI_1]
      simp only [lg_cmp_eq]
    by_cases c1 : o = h
    · left
      refine ⟨s', ⟨rfl, fun o' ho' => ?_⟩, hst.trans ?_⟩
      · by_cases c2 : o' = o
        · rw [c2, c1]; exact fun hs => hs.1 rfl
        · exact i2 o' (by omega)
      · rw [if_pos (by rw [c1])]
    · rw [if_neg (fun e => c1 ((nI_eq (by omega) (by omega)).mp e))] at hst
      by_cases c2 : lN (fv o) &&& lN (fv h) = 0
      · left
        refine ⟨s', ⟨rfl, fun o' ho' => ?_⟩, hst.trans ?_⟩
        · by_cases c3 : o' = o
          · rw [c3]; exact fun hs => hs.2 c2
          · exact i2 o' (by omega)
        · rw [if_pos c2]
      · right
        refine ⟨_, Or.inr ⟨rfl, o, ho, c1, c2⟩, hst.trans ?_⟩
        rw [if_neg c2]
  · intro f s' ⟨i1, i2⟩
    subst i1
    refine ⟨_, Or.inl ⟨rfl, i2⟩, ?_⟩
    show B_Bench_isShared_2 N (F_Bench_isShared_2 N (B + 5) (nI h) f) (B + 5) (nI h) (nI 10) (mkM h0 B D hi z (s')) = _
    unfold B_Bench_isShared_2 F_Bench_isShared_55
    rw [rdm_5_2 hf]
    dsimp only [Option.bind_some]
    rw [n52 hf]
    dsimp only [Option.bind_some]
    rw [if_pos (by decide)]
  · intro r ⟨hr, e⟩
    rcases hr with ⟨rfl, hr⟩ | ⟨rfl, hr⟩
    · exact Or.inl ⟨e, hr⟩
    · exact Or.inr ⟨e, hr⟩
theorem c_served (hN : 1000 ≤ N) (hf : FX D hi) (hp : PL D hi P) (hG : GW A w b wet) (hb : GB A b) (hP : P = 58 ∨ 130 ≤ P) (hPb : P + 30 < 2 ^ 31) (hcp : CP s P A) (h : CW D hi s A w b P) : ∃ v s', F_Bench_servedHouses N (mkM h0 B D hi z s) (B + 5) (nI wet) = some (nI v, (mkM h0 B D hi z (s'))) ∧ Fe (fun q => 47 ≤ q ∧ q ≤ 51) s s' ∧ SV A w b wet v := by
  have hA := hG.1
  unfold F_Bench_servedHouses
  rw [rcm_5 hf, if_pos rfl]
  refine Exists.elim (lpE (F := fun f h s => F_Bench_servedHouses_2 N (B + 5) (nI wet) f (nI h) (mkM h0 B D hi z s)) (n := 10) (I := fun h s' => Fe (fun q => 47 ≤ q ∧ q ≤ 51) s s' ∧ ∃ fv, HF A w b wet h fv ∧ ∀ i, i < h → s'.2 52 i = lN (fv i)) ?_ N 0 s (by omega) (by omega) ⟨fun _ _ => rfl, fun _ => 0, fun h hh => by omega, fun i hi => by omega⟩) ?_
  · intro f j s' hj ⟨i1, fv, i2, i3⟩
    have hcp' : CP s' P A := CP_fe hcp i1 (fun k h1 h2 => by omega)
    have hW' : CW D hi s' A w b P := CW_fe h i1 hP (fun q hq2 hh => by omega)
    have hadd : ∀ (s2 : mst) (x : Nat), Fe (fun q => 47 ≤ q ∧ q ≤ 51) s' s2 → s2.2 = s'.2 → (q_hm A w j = 0 → x = 0) → (∀ u, q_hm A w j = u + 1 → FD A w b wet (q_nd A w b u 1) x) → Fe (fun q => 47 ≤ q ∧ q ≤ 51) s (s2.1, up1 s2.2 52 (vp_updL (s2.2 52) j (lN x))) ∧ ∃ fv, HF A w b wet (j + 1) fv ∧ ∀ i, i < j + 1 → (up1 s2.2 52 (vp_updL (s2.2 52) j (lN x))) 52 i = lN (fv i) := by
      intro s2 x m2 e2 c1 c2
      refine ⟨Fe_t i1 m2, updN fv j x, fun q hq => ?_, fun i hi' => ?_⟩
      · by_cases hqh : q = j
        · rw [hqh, updN_s]; exact ⟨c1, c2⟩
        · rw [updN_n hqh]; exact i2 q (by omega)
      · rw [up1_same]
        by_cases hqh : i = j
        · rw [hqh, updN_s, pk_uLs]
        · rw [updN_n hqh, pk_uLn hqh, e2]; exact i3 i (by omega)
    have hle : q_hm A w j ≤ 56 := q_ff_lt 56
    by_cases h0h : q_hm A w j = 0
    · obtain ⟨g1, g2⟩ := hadd s' 0 (fun _ _ => rfl) rfl (fun _ => rfl) (fun u hu => by omega)
      refine ⟨_, ⟨g1, g2⟩, ?_⟩
      show B_Bench_servedHouses_2 N (F_Bench_servedHouses_2 N (B + 5) (nI wet) f) (B + 5) (nI wet) (nI j) (mkM h0 B D hi z (s')) = _
      unfold B_Bench_servedHouses_2 F_Bench_servedHouses_40_2
      rw [rdm_5_2 hf]
      dsimp only [Option.bind_some]
      rw [n52 hf]
      dsimp only [Option.bind_some]
      rw [if_neg (nI_ge hj (by decide)), rdm_5_0 hf]
      dsimp only [Option.bind_some]
      rw [c_homeOf hf hA hW' hPb hj, h0h, cd_0]
      dsimp only [Option.bind_some]
      rw [rdm_5_2 hf]
      dsimp only [Option.bind_some]
      rw [if_pos rfl, k52 hf hj]
      dsimp only [Option.bind_some]
      rw [nI_1]
      rfl
    · obtain ⟨u, hu⟩ : ∃ u, q_hm A w j = u + 1 := ⟨q_hm A w j - 1, by omega⟩
      have hus := (q_hg_st hA ((q_hm_s hA).mp hu)).1
      have hul := q_st_lt hA hus
      obtain ⟨v, s2, e2, m2, f2⟩ := c_feedersOf (N := N) (h0 := h0) (B := B) (z := z) hN hf hp hG hb hP hPb hcp' hW' hus
      obtain ⟨g1, g2⟩ := hadd s2 v (Fe_of m2) m2.2 (fun e => absurd e h0h) (fun u' hu' => by rw [show u' = u by omega]; exact f2)
      refine ⟨_, ⟨g1, g2⟩, ?_⟩
      show B_Bench_servedHouses_2 N (F_Bench_servedHouses_2 N (B + 5) (nI wet) f) (B + 5) (nI wet) (nI j) (mkM h0 B D hi z (s')) = _
      unfold B_Bench_servedHouses_2 F_Bench_servedHouses_40_2
      rw [rdm_5_2 hf]
      dsimp only [Option.bind_some]
      rw [n52 hf]
      dsimp only [Option.bind_some]
      rw [if_neg (nI_ge hj (by decide)), rdm_5_0 hf]
      dsimp only [Option.bind_some]
      rw [c_homeOf hf hA hW' hPb hj, hu, cd_s]
      dsimp only [Option.bind_some]
      rw [rdm_5_2 hf]
      dsimp only [Option.bind_some]
      rw [if_neg (nI_n1 (by omega)), e2]
      dsimp only [Option.bind_some]
      rw [k52 hf hj]
      dsimp only [Option.bind_some]
      rw [nI_1]
  · intro f ⟨s1, ⟨i1, fv, i2, i3⟩, e1⟩
    have hend : F_Bench_servedHouses_2 N (B + 5) (nI wet) (f + 1) (nI 10) (mkM h0 B D hi z (s1)) = F_Bench_servedHouses_51 N (B + 5) N (nI 0) (nI 0) (mkM h0 B D hi z (s1)) := by
      show B_Bench_servedHouses_2 N (F_Bench_servedHouses_2 N (B + 5) (nI wet) f) (B + 5) (nI wet) (nI 10) (mkM h0 B D hi z (s1)) = _
      unfold B_Bench_servedHouses_2 F_Bench_servedHouses_47
      rw [rdm_5_2 hf]
      dsimp only [Option.bind_some]
      rw [n52 hf]
      dsimp only [Option.bind_some]
      rw [if_pos (by decide), L_0]
    refine Exists.elim (lpE (F := fun g h (q : Int32 × mst) => F_Bench_servedHouses_51 N (B + 5) g q.1 (nI h) (mkM h0 B D hi z (q.2))) (n := 10) (I := fun h q => q.2 = s1 ∧ ∃ v, q.1 = nI v ∧ v < 2 ^ 10 ∧ ∀ j, v.testBit j = true ↔ j < h ∧ (bcL (lN (fv j)) = 1 ∧ ∀ o, o < 10 → ¬ q_shr fv j o)) ?_ N 0 (nI 0, s1) (by omega) (by omega) ⟨rfl, 0, rfl, by decide, bits_0⟩) ?_
    · intro g j ⟨q1, q2⟩ hj ⟨j1, v, j2, j3, j4⟩
      dsimp only at j1 j2
      subst j1 j2
      have hst : F_Bench_servedHouses_51 N (B + 5) (g + 1) (nI v) (nI j) (mkM h0 B D hi z (q2)) = if bcL (lN (fv j)) = 1 then ((F_Bench_isShared N (mkM h0 B D hi z (q2)) (B + 5) (nI j)).bind fun (v10, S9) => if v10 = 0 then F_Bench_servedHouses_51 N (B + 5) g (nI v ||| nI (2 ^ j)) (nI (j + 1)) S9 else F_Bench_servedHouses_51 N (B + 5) g (nI v) (nI (j + 1)) S9) else F_Bench_servedHouses_51 N (B + 5) g (nI v) (nI (j + 1)) (mkM h0 B D hi z (q2)) := by
        show B_Bench_servedHouses_51 N (F_Bench_servedHouses_51 N (B + 5) g) (B + 5) (nI v) (nI j) (mkM h0 B D hi z (q2)) = _
        unfold B_Bench_servedHouses_51 F_Bench_servedHouses_87
        rw [rdm_5_2 hf]
        dsimp only [Option.bind_some]
        rw [n52 hf]
        dsimp only [Option.bind_some]
        rw [if_neg (nI_ge hj (by decide)), j52 hf hj]
        dsimp only [Option.bind_some]
        rw [i3 j hj, bcL_f]
        dsimp only [Option.bind_some]
        rw [nI_1, sh1 (by omega)]
      by_cases c0 : bcL (lN (fv j)) = 1
      · rw [if_pos c0] at hst
        rcases c_isShared (N := N) (h0 := h0) (B := B) (z := z) hN hf i3 hj with ⟨k1, k2⟩ | ⟨k1, o, k2, k3⟩
        · obtain ⟨u1, u2⟩ := bits_up j4 j3 hj ⟨c0, k2⟩
          refine ⟨(nI (v ||| 2 ^ j), q2), ⟨rfl, _, rfl, u1, u2⟩, hst.trans ?_⟩
          rw [k1]
          dsimp only [Option.bind_some]
          rw [if_pos rfl, nI_or]
        · refine ⟨(nI v, q2), ⟨rfl, v, rfl, j3, bits_no j4 (fun hh2 => hh2.2 o k2 k3)⟩, hst.trans ?_⟩
          rw [k1]
          dsimp only [Option.bind_some]
          rw [if_neg i10]
      · rw [if_neg c0] at hst
        exact ⟨(nI v, q2), ⟨rfl, v, rfl, j3, bits_no j4 (fun hh2 => c0 hh2.1)⟩, hst⟩
    · intro g ⟨⟨q1, q2⟩, ⟨j1, v, j2, j3, j4⟩, ee⟩
      dsimp only at j1 j2 ee
      subst j1 j2
      refine ⟨v, q2, e1.trans (hend.trans (Eq.trans ee ?_)), i1, fv, i2, j3, j4⟩
      show B_Bench_servedHouses_51 N (F_Bench_servedHouses_51 N (B + 5) g) (B + 5) (nI v) (nI 10) (mkM h0 B D hi z (q2)) = _
      unfold B_Bench_servedHouses_51 F_Bench_servedHouses_93
      rw [rdm_5_2 hf]
      dsimp only [Option.bind_some]
      rw [n52 hf]
      dsimp only [Option.bind_some]
      rw [if_pos (by decide)]
theorem c_comesToHome (hf : FX D hi) (hA : WF A) {v0 u : Nat} (ht : TO A w b wet v0 s) (hu : q_st A u) : (F_Tone_comesToHome N (mkM h0 B D hi z s) (B + 47) (nI u) = some (1, (mkM h0 B D hi z s)) ∧ q_R A w b wet v0 (q_nd A w b u 1)) ∨ (F_Tone_comesToHome N (mkM h0 B D hi z s) (B + 47) (nI u) = some (0, (mkM h0 B D hi z s)) ∧ ¬ q_R A w b wet v0 (q_nd A w b u 1)) := by
  have hul := q_st_lt hA hu
  obtain ⟨v, t1, t2⟩ := ht (u / 8) 1 hu.1 (by omega)
  have t3 := t2.2 (u % 8)
  rw [show 8 * (u / 8) + u % 8 = u by omega] at t3
  have hv := t2.1
  have hun : F_Tone_comesToHome N (mkM h0 B D hi z s) (B + 47) (nI u) = if nI (v / 2 ^ (u % 8) % 2) = 0 then some (0, (mkM h0 B D hi z s)) else some (1, (mkM h0 B D hi z s)) := by
    unfold F_Tone_comesToHome F_Tone_comesToHome_28 F_Tone_comesToHome_29
    rw [rcm_47 hf, if_pos rfl, if_neg (nI_n1 (by omega)), c_cableOf (by omega)]
    dsimp only [Option.bind_some]
    rw [L_1, c_comesTo hf (by omega) (by omega), t1]
    dsimp only [Option.bind_some]
    rw [c_pairOf (by omega)]
    dsimp only [Option.bind_some]
    rw [L_31, nI_shr (by omega) (by omega), nI_and1, if_pos (Or.inl rfl), if_pos (Or.inr rfl)]
  by_cases hb2 : v.testBit (u % 8) = true
  · left
    refine ⟨?_, (t3.mp hb2).2⟩
    rw [hun, show v / 2 ^ (u % 8) % 2 = 1 from so_tb.mpr hb2, if_neg (by decide)]
  · right
    refine ⟨?_, fun hr => hb2 (t3.mpr ⟨hu.2, hr⟩)⟩
    rw [hun, (bit01 v (u % 8)).resolve_right (fun e => hb2 (so_tb.mp e)), if_pos nI_0]
theorem c_hearing (hN : 1000 ≤ N) (hf : FX D hi) (hp : PL D hi P) (hG : GW A w b wet) (hb : GB A b) (hP : P = 58 ∨ 130 ≤ P) (hPb : P + 30 < 2 ^ 31) (h : CW D hi s A w b P) {j u0 : Nat} (hj : j < 10) (hu0 : q_hm A w j = u0 + 1) : ∃ v s', F_Bench_housesHearing N (mkM h0 B D hi z s) (B + 5) (nI j) (nI wet) = some (nI v, (mkM h0 B D hi z (s'))) ∧ Fm (fun q => 47 ≤ q ∧ q ≤ 51) s s' ∧ NB A w b wet j (q_nd A w b u0 1) v := by
  have hA := hG.1
  have hus := (q_hg_st hA ((q_hm_s hA).mp hu0)).1
  have hul := q_st_lt hA hus
  obtain ⟨s1, e1, m1, t1⟩ := c_send (N := N) (h0 := h0) (B := B) (z := z) hN hf hG hb hP hPb h hus (show 1 < 2 by omega)
  have hW1 : CW D hi s1 A w b P := CW_fm h m1 hP (fun q hq2 hh => by omega)
  unfold F_Bench_housesHearing
  rw [rcm_5 hf, if_pos rfl, rdm_5_0 hf]
  dsimp only [Option.bind_some]
  rw [c_homeOf hf hA h hPb hj, hu0, cd_s]
  dsimp only [Option.bind_some]
  rw [if_neg (nI_n1 (by omega)), rdm_5_1 hf]
  dsimp only [Option.bind_some]
  rw [rdm_5_0 hf]
  dsimp only [Option.bind_some]
  rw [L_1, e1]
  dsimp only [Option.bind_some]
  refine Exists.elim (lpE (F := fun g o (q : Int32 × mst) => F_Bench_housesHearing_36 N (B + 5) (nI j) g q.1 (nI o) (mkM h0 B D hi z (q.2))) (n := 10) (I := fun o q => q.2 = s1 ∧ ∃ v, q.1 = nI v ∧ v < 2 ^ 10 ∧ ∀ i, v.testBit i = true ↔ i < o ∧ (i ≠ j ∧ ∃ u, q_hm A w i = u + 1 ∧ q_R A w b wet (q_nd A w b u0 1) (q_nd A w b u 1))) ?_ N 0 (nI 0, s1) (by omega) (by omega) ⟨rfl, 0, rfl, by decide, bits_0⟩) ?_
  · intro g o ⟨q1, q2⟩ ho ⟨j1, v, j2, j3, j4⟩
    dsimp only at j1 j2
    subst j1 j2
    have hunf : ∀ (R : Option (Int32 × pm_S)), B_Bench_housesHearing_36 N (F_Bench_housesHearing_36 N (B + 5) (nI j) g) (B + 5) (nI j) (nI v) (nI o) (mkM h0 B D hi z (q2)) = R → F_Bench_housesHearing_36 N (B + 5) (nI j) (g + 1) (nI v) (nI o) (mkM h0 B D hi z (q2)) = R := fun R e => e
    by_cases c1 : o = j
    · refine ⟨(nI v, q2), ⟨rfl, v, rfl, j3, bits_no j4 (fun c => c.1 c1)⟩, hunf _ ?_⟩
      unfold B_Bench_housesHearing_36 F_Bench_housesHearing_77
      rw [L_10, if_neg (nI_ge ho (by decide)), if_pos (by rw [c1]), nI_1]
    · have c1' : ¬ nI o = nI j := fun e => c1 ((nI_eq (by omega) (by omega)).mp e)
      have hst : F_Bench_housesHearing_36 N (B + 5) (nI j) (g + 1) (nI v) (nI o) (mkM h0 B D hi z (q2)) = (F_Tone_comesToHome N (mkM h0 B D hi z (q2)) (B + 47) (cd (q_hm A w o))).bind fun (v16, S15) => if v16 = 0 then F_Bench_housesHearing_36 N (B + 5) (nI j) g (nI v) (nI (o + 1)) S15 else F_Bench_housesHearing_36 N (B + 5) (nI j) g (nI v ||| nI (2 ^ o)) (nI (o + 1)) S15 := by
        refine hunf _ ?_
        unfold B_Bench_housesHearing_36 F_Bench_housesHearing_77
        rw [L_10, if_neg (nI_ge ho (by decide)), if_neg c1', rdm_5_1 hf]
        dsimp only [Option.bind_some]
        rw [rdm_5_0 hf]
        dsimp only [Option.bind_some]
        rw [c_homeOf hf hA hW1 hPb ho]
        dsimp only [Option.bind_some]
        rw [nI_1, sh1 (by omega)]
      by_cases h0o : q_hm A w o = 0
      · refine ⟨(nI v, q2), ⟨rfl, v, rfl, j3, bits_no j4 (fun ⟨_, u, hu, _⟩ => by omega)⟩, hst.trans ?_⟩
        rw [h0o, cd_0]
        unfold F_Tone_comesToHome F_Tone_comesToHome_28 F_Tone_comesToHome_29
        rw [rcm_47 hf, if_pos rfl, if_pos rfl, if_pos (Or.inl rfl)]
        rfl
      · obtain ⟨u, hu⟩ : ∃ u, q_hm A w o = u + 1 := ⟨q_hm A w o - 1, by omega⟩
        have hus2 := (q_hg_st hA ((q_hm_s hA).mp hu)).1
        rcases c_comesToHome (N := N) (h0 := h0) (B := B) (z := z) hf hA t1 hus2 with ⟨k1, k2⟩ | ⟨k1, k2⟩
        · obtain ⟨u1, u2⟩ := bits_up j4 j3 ho ⟨c1, u, hu, k2⟩
          refine ⟨(nI (v ||| 2 ^ o), q2), ⟨rfl, _, rfl, u1, u2⟩, hst.trans ?_⟩
          rw [hu, cd_s, k1]
          dsimp only [Option.bind_some]
          rw [if_neg i10, nI_or]
        · refine ⟨(nI v, q2), ⟨rfl, v, rfl, j3, bits_no j4 (fun ⟨_, u', hu', hr⟩ => k2 (by rw [show u = u' by omega]; exact hr))⟩, hst.trans ?_⟩
          rw [hu, cd_s, k1]
          rfl
  · intro g ⟨⟨q1, q2⟩, ⟨j1, v, j2, j3, j4⟩, ee⟩
    dsimp only at j1 j2 ee
    subst j1 j2
    refine ⟨v, q2, Eq.trans ee ?_, m1, j3, j4⟩
    show B_Bench_housesHearing_36 N (F_Bench_housesHearing_36 N (B + 5) (nI j) g) (B + 5) (nI j) (nI v) (nI 10) (mkM h0 B D hi z (q2)) = _
    unfold B_Bench_housesHearing_36 F_Bench_housesHearing_83
    rw [if_pos (by decide)]
theorem n1_nIb : (-1 : Int32) = nI 4294967295 := by decide +kernel
theorem andn {a c : Nat} (ha : a < 2 ^ 10) : ∃ v, nI a &&& (nI c ^^^ (-1)) = nI v ∧ v < 2 ^ 10 ∧ ∀ j, v.testBit j = true ↔ a.testBit j = true ∧ ¬ c.testBit j = true := by
  refine ⟨a &&& (c ^^^ 4294967295), by rw [n1_nIb, nI_xor, nI_and], Nat.lt_of_le_of_lt Nat.and_le_left ha, fun j => ?_⟩
  rw [Nat.testBit_and, Nat.testBit_xor, Bool.and_eq_true]
  constructor
  · intro ⟨h1, h2⟩
    refine ⟨h1, fun h3 => ?_⟩
    have hj : j < 10 := by
      apply Classical.byContradiction
      intro h4
      have := Nat.testBit_lt_two_pow (x := a) (i := j) (Nat.lt_of_lt_of_le ha (Nat.pow_le_pow_right (by decide) (by omega)))
      rw [this] at h1
      exact absurd h1 (by decide)
    have h5 : (4294967295 : Nat).testBit j = true := by
      rw [show 4294967295 = 2 ^ 32 - 1 by decide, Nat.testBit_two_pow_sub_one]
      exact decide_eq_true (by omega)
    rw [h3, h5] at h2
    exact absurd h2 (by decide)
  · intro ⟨h1, h2⟩
    have hj : j < 10 := by
      apply Classical.byContradiction
      intro h4
      have := Nat.testBit_lt_two_pow (x := a) (i := j) (Nat.lt_of_lt_of_le ha (Nat.pow_le_pow_right (by decide) (by omega)))
      rw [this] at h1
      exact absurd h1 (by decide)
    have h5 : (4294967295 : Nat).testBit j = true := by
      rw [show 4294967295 = 2 ^ 32 - 1 by decide, Nat.testBit_two_pow_sub_one]
      exact decide_eq_true (by omega)
    refine ⟨h1, ?_⟩
    have h6 : c.testBit j = false := by
      cases hc : c.testBit j with
      | false => rfl
      | true => exact absurd hc h2
    rw [h6, h5]
    rfl
/-- PAIRS of a row that are something -/
theorem c_pairsWith (hN : 1000 ≤ N) (hf : FX D hi) (hp : PL D hi P) (hA : WF A) (hPb : P + 30 < 2 ^ 31) (hcp : CP s P A) (h : s.1 6 9 = nI P) {k c : Nat} (hk : AR D hi k 56) {o : Nat → Nat} (ho : ∀ u, u < 56 → s.1 k u = cd (o u)) (hob : ∀ u, o u ≤ 100) (hcc : c < q_nc A) : ∃ v, F_Wires_pairsWith N (mkM h0 B D hi z s) (B + 6) (B + k) (nI c) = some (nI v, (mkM h0 B D hi z s)) ∧ v < 2 ^ 10 ∧ ∀ j, v.testBit j = true ↔ j < q_pr A c ∧ o (8 * c + j) ≠ 0 := by
  have hc := hA.1
  unfold WFc at hc
  have hxx := hA.2.1 c hcc
  have hrof : rof B (s.1 6 9) = some (B + P) := by rw [h]; exact rof_nI (by omega)
  unfold F_Wires_pairsWith
  rw [rcm_6 hf, if_pos rfl]
  refine Exists.elim (lpE (F := fun g p (q : Int32 × mst) => F_Wires_pairsWith_5 N (B + 6) (B + k) (nI c) g q.1 (nI p) (mkM h0 B D hi z (q.2))) (n := q_pr A c) (I := fun p q => q.2 = s ∧ ∃ v, q.1 = nI v ∧ v < 2 ^ 10 ∧ ∀ j, v.testBit j = true ↔ j < p ∧ o (8 * c + j) ≠ 0) ?_ N 0 (nI 0, s) (by omega) (by omega) ⟨rfl, 0, rfl, by decide, bits_0⟩) ?_
  · intro g p ⟨q1, q2⟩ hpp ⟨j1, v, j2, j3, j4⟩
    dsimp only at j1 j2
    subst j1 j2
    have hob2 := hob (8 * c + p)
    have hst : F_Wires_pairsWith_5 N (B + 6) (B + k) (nI c) (g + 1) (nI v) (nI p) (mkM h0 B D hi z (q2)) = if cd (o (8 * c + p)) = -1 then F_Wires_pairsWith_5 N (B + 6) (B + k) (nI c) g (nI v) (nI (p + 1)) (mkM h0 B D hi z (q2)) else F_Wires_pairsWith_5 N (B + 6) (B + k) (nI c) g (nI v ||| nI (2 ^ p)) (nI (p + 1)) (mkM h0 B D hi z (q2)) := by
      show B_Wires_pairsWith_5 N (F_Wires_pairsWith_5 N (B + 6) (B + k) (nI c) g) (B + 6) (B + k) (nI c) (nI v) (nI p) (mkM h0 B D hi z (q2)) = _
      unfold B_Wires_pairsWith_5 F_Wires_pairsWith_39
      rw [o6_9 hf, hrof]
      dsimp only [Option.bind_some]
      rw [c_pairsOf hp hcp hA hcc]
      dsimp only [Option.bind_some]
      rw [if_neg (nI_ge hpp (by omega)), c_siteOf]
      dsimp only [Option.bind_some]
      rw [ar_v hk, vat_nI (by omega) (by decide), ho _ (by omega)]
      dsimp only [Option.bind_some]
      rw [nI_1, sh1 (by omega)]
    by_cases c1 : o (8 * c + p) = 0
    · refine ⟨(nI v, q2), ⟨rfl, v, rfl, j3, bits_no j4 (fun hh => hh c1)⟩, hst.trans ?_⟩
      rw [if_pos ((cd_n1 (by omega)).mpr c1)]
    · obtain ⟨u1, u2⟩ := bits_up j4 j3 (show p < 10 by omega) c1
      refine ⟨(nI (v ||| 2 ^ p), q2), ⟨rfl, _, rfl, u1, u2⟩, hst.trans ?_⟩
      rw [if_neg (fun e => c1 ((cd_n1 (by omega)).mp e)), nI_or]
  · intro g ⟨⟨q1, q2⟩, ⟨j1, v, j2, j3, j4⟩, ee⟩
    dsimp only at j1 j2 ee
    subst j1 j2
    refine ⟨v, Eq.trans ee ?_, j3, j4⟩
    show B_Wires_pairsWith_5 N (F_Wires_pairsWith_5 N (B + 6) (B + k) (nI c) g) (B + 6) (B + k) (nI c) (nI v) (nI (q_pr A c)) (mkM h0 B D hi z (q2)) = _
    unfold B_Wires_pairsWith_5 F_Wires_pairsWith_45
    rw [o6_9 hf, hrof]
    dsimp only [Option.bind_some]
    rw [c_pairsOf hp hcp hA hcc]
    dsimp only [Option.bind_some]
    rw [if_pos (nI_le (Nat.le_refl _) (by omega))]
/-- PAIRS that are fed and go on by no JOINT -/
def OPb (A : AP) (w : Nat) (b : Nat × Nat) (c v : Nat) : Prop := v < 2 ^ 10 ∧ ∀ j, v.testBit j = true ↔ j < q_pr A c ∧ q_on A w (8 * c + j) = 0 ∧ q_fz A w b 0 (8 * c + j)
theorem c_openPairs (hN : 1000 ≤ N) (hf : FX D hi) (hp : PL D hi P) (hG : GW A w b 0) (hb : GB A b) (hP : P = 58 ∨ 130 ≤ P) (hPb : P + 30 < 2 ^ 31) (hcp : CP s P A) (h : CW D hi s A w b P) {c : Nat} (hcc : c < q_nc A) : ∃ v s', F_Bench_openPairs N (mkM h0 B D hi z s) (B + 5) (nI c) = some (nI v, (mkM h0 B D hi z (s'))) ∧ Fm (fun q => 47 ≤ q ∧ q ≤ 51) s s' ∧ OPb A w b c v := by
  have hA := hG.1
  have hc := hA.1
  unfold WFc at hc
  have hxx := hA.2.1 c hcc
  unfold F_Bench_openPairs
  rw [rcm_5 hf, if_pos rfl]
  refine Exists.elim (lpE (F := fun g p (q : Int32 × mst) => F_Bench_openPairs_4 N (B + 5) (nI c) g q.1 (nI p) (mkM h0 B D hi z (q.2))) (n := q_pr A c) (I := fun p q => Fm (fun q => 47 ≤ q ∧ q ≤ 51) s q.2 ∧ ∃ v, q.1 = nI v ∧ v < 2 ^ 10 ∧ ∀ j, v.testBit j = true ↔ j < p ∧ q_fz A w b 0 (8 * c + j)) ?_ N 0 (nI 0, s) (by omega) (by omega) ⟨Fm_r, 0, rfl, by decide, bits_0⟩) ?_
  · intro g p ⟨q1, q2⟩ hpp ⟨j1, v, j2, j3, j4⟩
    dsimp only at j1 j2
    subst j2
    have hcp2 : CP q2 P A := CP_fm hcp j1 (fun k h1 h2 => by omega)
    have hW2 : CW D hi q2 A w b P := CW_fm h j1 hP (fun q hq2 hh => by omega)
    have hrof : rof B (q2.1 6 9) = some (B + P) := by rw [hW2.1]; exact rof_nI (by omega)
    obtain ⟨hst2, _, _⟩ := st_mk hA hcc hpp
    obtain ⟨vf, s2, f1, m2, fd⟩ := c_feedersOf (N := N) (h0 := h0) (B := B) (z := z) hN hf hp hG hb hP hPb hcp2 hW2 hst2
    have hfz := q_fz_iff fd
    have hst : F_Bench_openPairs_4 N (B + 5) (nI c) (g + 1) (nI v) (nI p) (mkM h0 B D hi z (q2)) = if lg_cmp (lN vf) 0 = 0 then F_Bench_openPairs_4 N (B + 5) (nI c) g (nI v) (nI (p + 1)) (mkM h0 B D hi z (s2)) else F_Bench_openPairs_4 N (B + 5) (nI c) g (nI v ||| nI (2 ^ p)) (nI (p + 1)) (mkM h0 B D hi z (s2)) := by
      show B_Bench_openPairs_4 N (F_Bench_openPairs_4 N (B + 5) (nI c) g) (B + 5) (nI c) (nI v) (nI p) (mkM h0 B D hi z (q2)) = _
      unfold B_Bench_openPairs_4 F_Bench_openPairs_40
      rw [rdm_5_0 hf]
      dsimp only [Option.bind_some]
      rw [o6_9 hf, hrof]
      dsimp only [Option.bind_some]
      rw [c_pairsOf hp hcp2 hA hcc]
      dsimp only [Option.bind_some]
      rw [if_neg (nI_ge hpp (by omega)), c_siteOf]
      dsimp only [Option.bind_some]
      have f1' : F_Bench_feedersOf N (mkM h0 B D hi z (q2)) (B + 5) (nI (8 * c + p)) 0 = some (lN vf, (mkM h0 B D hi z (s2))) := f1
      rw [f1']
      dsimp only [Option.bind_some]
      rw [nI_1, sh1 (by omega)]
    by_cases c1 : vf = 0
    · refine ⟨(nI v, s2), ⟨Fm_t j1 m2, v, rfl, j3, bits_no j4 (fun hh => (hfz.mp hh) c1)⟩, hst.trans ?_⟩
      rw [if_pos ((lN_z fd.1).mpr c1)]
    · obtain ⟨u1, u2⟩ := bits_up j4 j3 (show p < 10 by omega) (hfz.mpr c1)
      refine ⟨(nI (v ||| 2 ^ p), s2), ⟨Fm_t j1 m2, _, rfl, u1, u2⟩, hst.trans ?_⟩
      rw [if_neg (fun e => c1 ((lN_z fd.1).mp e)), nI_or]
  · intro g ⟨⟨q1, q2⟩, ⟨j1, v, j2, j3, j4⟩, ee⟩
    dsimp only at j1 j2 ee
    subst j2
    have hcp2 : CP q2 P A := CP_fm hcp j1 (fun k h1 h2 => by omega)
    have hW2 : CW D hi q2 A w b P := CW_fm h j1 hP (fun q hq2 hh => by omega)
    have hrof : rof B (q2.1 6 9) = some (B + P) := by rw [hW2.1]; exact rof_nI (by omega)
    obtain ⟨Y, y1, y2, y3, y4⟩ := hW2.2.1
    have hrofY : rof B (q2.1 6 10) = some (B + Y) := by rw [y1]; exact rof_nI (by omega)
    obtain ⟨vj, w1, w2, w3⟩ := c_pairsWith (N := N) (h0 := h0) (B := B) (z := z) hN hf hp hA hPb hcp2 hW2.1 (k := Y + 1) (c := c) y3.2.2.1 (o := q_on A w) (fun u hu => (y4.1 u hu).1) (fun u => by
      rcases q_on_v hA (w := w) (u := u) with hq | hq
      · omega
      · have := q_st_lt hA hq; omega) hcc
    obtain ⟨va, a1, a2, a3⟩ := andn (a := v) (c := vj) j3
    refine ⟨va, q2, Eq.trans ee ?_, j1, a2, fun j => ?_⟩
    · show B_Bench_openPairs_4 N (F_Bench_openPairs_4 N (B + 5) (nI c) g) (B + 5) (nI c) (nI v) (nI (q_pr A c)) (mkM h0 B D hi z (q2)) = _
      unfold B_Bench_openPairs_4 F_Bench_openPairs_46
      rw [rdm_5_0 hf]
      dsimp only [Option.bind_some]
      rw [o6_9 hf, hrof]
      dsimp only [Option.bind_some]
      rw [c_pairsOf hp hcp2 hA hcc]
      dsimp only [Option.bind_some]
      rw [if_pos (nI_le (Nat.le_refl _) (by omega)), rdm_5_0 hf]
      dsimp only [Option.bind_some]
      have hjp : F_Wires_jointPairs N (mkM h0 B D hi z (q2)) (B + 6) (nI c) = some (nI vj, (mkM h0 B D hi z (q2))) := by
        unfold F_Wires_jointPairs
        rw [rcm_6 hf, if_pos rfl, o6_10 hf, hrofY]
        dsimp only [Option.bind_some]
        rw [yt_0 y3]
        dsimp only [Option.bind_some]
        rw [w1]
        rfl
      rw [hjp]
      dsimp only [Option.bind_some]
      rw [a1]
    · rw [a3 j, j4 j, w3 j]
      constructor
      · intro ⟨⟨g1, g2⟩, g3⟩
        refine ⟨g1, ?_, g2⟩
        apply Classical.byContradiction
        intro g4
        exact g3 ⟨g1, g4⟩
      · intro ⟨g1, g2, g3⟩
        exact ⟨⟨g1, g3⟩, fun g4 => g4.2 g2⟩
theorem c_hungPairs (hN : 1000 ≤ N) (hf : FX D hi) (hp : PL D hi P) (hA : WF A) (hPb : P + 30 < 2 ^ 31) (hcp : CP s P A) (h : CW D hi s A w b P) {c : Nat} (hcc : c < q_nc A) : ∃ v, F_Wires_hungPairs N (mkM h0 B D hi z s) (B + 6) (nI c) = some (nI v, (mkM h0 B D hi z s)) ∧ v < 2 ^ 10 ∧ ∀ j, v.testBit j = true ↔ j < q_pr A c ∧ q_hg A w (8 * c + j) ≠ 0 := by
  obtain ⟨Y, y1, y2, y3, y4⟩ := h.2.1
  have hrofY : rof B (s.1 6 10) = some (B + Y) := by rw [y1]; exact rof_nI (by omega)
  obtain ⟨vj, w1, w2, w3⟩ := c_pairsWith (N := N) (h0 := h0) (B := B) (z := z) hN hf hp hA hPb hcp h.1 (k := Y + 3) (c := c) y3.2.2.2.2.1 (o := q_hg A w) (fun u hu => (y4.1 u hu).2.2) (fun u => by have : q_hg A w u ≤ 10 := (LV_lw hA w (q_ns A) (Nat.le_refl _) u).2; omega) hcc
  refine ⟨vj, ?_, w2, w3⟩
  unfold F_Wires_hungPairs
  rw [rcm_6 hf, if_pos rfl, o6_10 hf, hrofY]
  dsimp only [Option.bind_some]
  rw [yt_2 y3]
  dsimp only [Option.bind_some]
  rw [w1]
  rfl
end HSC
