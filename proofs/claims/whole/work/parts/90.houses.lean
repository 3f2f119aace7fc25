/-! ===== HOUSES in the reference: SERVED, NEIGHBOURS, SPARE ===== -/
def Me (K J : List Nat) (s s' : mst) : Prop := (∀ k, k ∉ K → k ≠ 85 → s'.1 k = s.1 k) ∧ (∀ j, j ∉ J → s'.1 85 j = s.1 85 j)
theorem Me_of {K J : List Nat} {s s' : mst} (h : Md K J s s') : Me K J s s' := ⟨h.1, h.2.1⟩
theorem Me_r {K J : List Nat} {s : mst} : Me K J s s := ⟨fun _ _ _ => rfl, fun _ _ => rfl⟩
theorem Me_t {K J : List Nat} {s s' s'' : mst} (h : Me K J s s') (h' : Me K J s' s'') : Me K J s s'' := ⟨fun k h1 h2 => (h'.1 k h1 h2).trans (h.1 k h1 h2), fun j h1 => (h'.2 j h1).trans (h.2 j h1)⟩
theorem Me_m {K J K' J' : List Nat} {s s' : mst} (h : Me K J s s') (hK : ∀ k, k ∈ K → k ∈ K') (hJ : ∀ k, k ∈ J → k ∈ J') : Me K' J' s s' := ⟨fun k h1 h2 => h.1 k (fun e => h1 (hK k e)) h2, fun j h1 => h.2 j (fun e => h1 (hJ j e))⟩
theorem RP_me {s s' : mst} {t : Nat} {A : AP} {K J : List Nat} (h : RP s t A) (hm : Me K J s s') (hK : ∀ k, k ∈ pers → k ∉ K ∧ k ≠ 85) : RP s' t A := RP_eq h (fun k hk => hm.1 k (hK k hk).1 (hK k hk).2)
theorem RW_me {s s' : mst} {t : Nat} {A : AP} {w wet : Nat} {b : Nat × Nat} {K J : List Nat} (h : RW s t A w b wet) (hm : Me K J s s') (hK : 106 ∉ K ∧ 107 ∉ K ∧ 108 ∉ K) (hJ : 29 ∉ J ∧ 30 ∉ J ∧ 31 ∉ J ∧ 32 ∉ J ∧ 33 ∉ J ∧ 34 ∉ J) : RW s' t A w b wet := by
  unfold RW RL at h ⊢
  rw [hm.2 29 hJ.1, hm.2 30 hJ.2.1, hm.2 31 hJ.2.2.1, hm.2 32 hJ.2.2.2.1, hm.2 33 hJ.2.2.2.2.1, hm.2 34 hJ.2.2.2.2.2, hm.1 106 hK.1 (by decide), hm.1 107 hK.2.1 (by decide), hm.1 108 hK.2.2 (by decide)]
  exact h
/-- bits of a long, as both sides count them -/
def bcL (x : Int64) : Int32 := ((G_Lng_bitCount 0 ((fun _ _ => 0), (fun _ _ => 0)) x).getD (0, ((fun _ _ => 0), (fun _ _ => 0)))).1
theorem bcL_g {N : Nat} {s : mst} {x : Int64} : G_Lng_bitCount N s x = some (bcL x, s) := rfl
theorem bcL_f {N : Nat} {S : pm_S} {x : Int64} : F_Lng_bitCount N S x = some (bcL x, S) := rfl
def bcI (x : Int32) : Int32 := ((G_Int_bitCount 0 ((fun _ _ => 0), (fun _ _ => 0)) x).getD (0, ((fun _ _ => 0), (fun _ _ => 0)))).1
theorem bcI_g {N : Nat} {s : mst} {x : Int32} : G_Int_bitCount N s x = some (bcI x, s) := rfl
theorem bcI_f {N : Nat} {S : pm_S} {x : Int32} : F_Int_bitCount N S x = some (bcI x, S) := rfl
/-- by what the HOUSES are fed -/
def HF (A : AP) (w : Nat) (b : Nat × Nat) (wet : Nat) (n : Nat) (fv : Nat → Nat) : Prop := ∀ h, h < n → (q_hm A w h = 0 → fv h = 0) ∧ (∀ u, q_hm A w h = u + 1 → FD A w b wet (q_nd A w b u 1) (fv h))
theorem HF_u {A : AP} {w wet n : Nat} {b : Nat × Nat} {fv fv' : Nat → Nat} (h : HF A w b wet n fv) (h' : HF A w b wet n fv') : ∀ i, i < n → fv i = fv' i := by
  intro i hi
  obtain ⟨a1, a2⟩ := h i hi
  obtain ⟨b1, b2⟩ := h' i hi
  cases hq : q_hm A w i with
  | zero => rw [a1 hq, b1 hq]
  | succ u => exact FD_u (a2 u hq) (b2 u hq)
def q_shr (fv : Nat → Nat) (h o : Nat) : Prop := o ≠ h ∧ ¬ lN (fv o) &&& lN (fv h) = 0
/-- SERVED, as bits -/
def SV (A : AP) (w : Nat) (b : Nat × Nat) (wet v : Nat) : Prop := ∃ fv, HF A w b wet 10 fv ∧ v < 1024 ∧ ∀ j, v.testBit j = true ↔ j < 10 ∧ bcL (lN (fv j)) = 1 ∧ ∀ o, o < 10 → ¬ q_shr fv j o
theorem SV_u {A : AP} {w wet v v' : Nat} {b : Nat × Nat} (h : SV A w b wet v) (h' : SV A w b wet v') : v = v' := by
  obtain ⟨fv, h1, h2, h3⟩ := h
  obtain ⟨fv', g1, g2, g3⟩ := h'
  have e := HF_u h1 g1
  apply Nat.eq_of_testBit_eq
  intro j
  rw [Bool.eq_iff_iff, h3 j, g3 j]
  constructor
  · intro ⟨a, c, d⟩
    refine ⟨a, by rw [← e j a]; exact c, fun o ho hs => d o ho ?_⟩
    unfold q_shr at hs ⊢
    rw [e o ho, e j a]
    exact hs
  · intro ⟨a, c, d⟩
    refine ⟨a, by rw [e j a]; exact c, fun o ho hs => d o ho ?_⟩
    unfold q_shr at hs ⊢
    rw [← e o ho, ← e j a]
    exact hs
theorem bits_up {P : Nat → Prop} {v n : Nat} (hv : ∀ j, v.testBit j = true ↔ j < n ∧ P j) (hn : v < 2 ^ 10) (hn2 : n < 10) (c : P n) : (v ||| 2 ^ n < 2 ^ 10) ∧ ∀ j, (v ||| 2 ^ n).testBit j = true ↔ j < n + 1 ∧ P j := by
  refine ⟨lt_or2 hn hn2, fun j => ?_⟩
  rw [tb_or2, hv j]
  constructor
  · intro h
    rcases h with h | h
    · exact ⟨by omega, h.2⟩
    · rw [h]; exact ⟨by omega, c⟩
  · intro h
    by_cases hj : j = n
    · exact Or.inr hj
    · exact Or.inl ⟨by omega, h.2⟩
theorem bits_no {P : Nat → Prop} {v n : Nat} (hv : ∀ j, v.testBit j = true ↔ j < n ∧ P j) (c : ¬ P n) : ∀ j, v.testBit j = true ↔ j < n + 1 ∧ P j := by
  intro j
  rw [hv j]
  constructor
  · intro h
    exact ⟨by omega, h.2⟩
  · intro h
    refine ⟨?_, h.2⟩
    by_cases hj : j = n
    · rw [hj] at h; exact absurd h.2 c
    · omega
theorem bits_0 {P : Nat → Prop} : ∀ j, (0 : Nat).testBit j = true ↔ j < 0 ∧ P j := by
  intro j
  rw [Nat.zero_testBit]
  exact ⟨fun h => absurd h (by decide), fun h => absurd h.1 (by omega)⟩
section HSR
variable {N t w wet : Nat} {s : mst} {A : AP} {b : Nat × Nat}
theorem stJ_nI {k n j : Nat} {x : Int64} (h : j < n) (hn : n < 2 ^ 31) : stJ s k n (nI j) x = some (s.1, up1 s.2 k (vp_updL (s.2 k) j x)) := by
  unfold stJ
  rw [if_pos (pmin h hn), nI_clamp (by omega)]
theorem r_served (hN : 1000 ≤ N) (ht : t < 6) (hG : GW A w b wet) (hR : RP s t A) (hW : RW s t A w b wet) : ∃ v s', G_M_served_26 N N 0 s = some (nI v, s') ∧ Me [109] [] s s' ∧ SV A w b wet v := by
  have hA := hG.1
  refine Exists.elim (lpE (F := fun f h s => G_M_served_26 N f (nI h) s) (n := 10) (I := fun h s' => Me [109] [] s s' ∧ ∃ fv, HF A w b wet h fv ∧ ∀ i, i < h → s'.2 110 i = lN (fv i)) ?_ N 0 s (by omega) (by omega) ⟨Me_r, fun _ => 0, fun h hh => by omega, fun i hi => by omega⟩) ?_
  · intro f h s' hh ⟨i1, fv, i2, i3⟩
    have R' : RP s' t A := RP_me hR i1 (by decide)
    have W' : RW s' t A w b wet := RW_me hW i1 (by decide) (by decide)
    have hle : q_hm A w h ≤ 56 := q_ff_lt 56
    have hha := r_hangsAt (N := N) hN hA W' hh
    have hadd : ∀ (s2 : mst) (x : Nat), Me [109] [] s' s2 → s2.2 = s'.2 → (q_hm A w h = 0 → x = 0) → (∀ u, q_hm A w h = u + 1 → FD A w b wet (q_nd A w b u 1) x) → Me [109] [] s (s2.1, up1 s2.2 110 (vp_updL (s2.2 110) h (lN x))) ∧ ∃ fv, HF A w b wet (h + 1) fv ∧ ∀ i, i < h + 1 → (up1 s2.2 110 (vp_updL (s2.2 110) h (lN x))) 110 i = lN (fv i) := by
      intro s2 x m2 e2 c1 c2
      refine ⟨Me_t i1 ⟨fun k h1 h2 => m2.1 k h1 h2, fun j h1 => m2.2 j h1⟩, updN fv h x, fun q hq => ?_, fun i hi => ?_⟩
      · by_cases hqh : q = h
        · rw [hqh, updN_s]; exact ⟨c1, c2⟩
        · rw [updN_n hqh]; exact i2 q (by omega)
      · rw [up1_same]
        by_cases hqh : i = h
        · rw [hqh, updN_s, pk_uLs]
        · rw [updN_n hqh, pk_uLn hqh, e2]; exact i3 i (by omega)
    by_cases h0h : q_hm A w h = 0
    · obtain ⟨g1, g2⟩ := hadd s' 0 Me_r rfl (fun _ => rfl) (fun u hu => by omega)
      refine ⟨_, ⟨g1, g2⟩, ?_⟩
      show GB_M_served_26 N (G_M_served_26 N f) (nI h) s' = _
      unfold GB_M_served_26 G_M_served_71
      rw [L_10, if_neg (nI_ge hh (by decide)), hha, h0h, r6_0, cd_0, Option.bind_some, if_pos rfl, stJ_nI hh (by decide), Option.bind_some, nI_1]
      rfl
    · obtain ⟨u, hu⟩ : ∃ u, q_hm A w h = u + 1 := ⟨q_hm A w h - 1, by omega⟩
      have hus := (q_hg_st hA ((q_hm_s hA).mp hu)).1
      have hul := q_st_lt hA hus
      obtain ⟨v, s2, e2, m2, f2⟩ := r_feeds hN ht hG R' W' hus.1 hus.2
      rw [show 8 * (u / 8) + u % 8 = u by omega] at f2
      obtain ⟨g1, g2⟩ := hadd s2 v (Me_of m2) m2.2.2 (fun e => absurd e h0h) (fun u' hu' => by rw [show u' = u by omega]; exact f2)
      refine ⟨_, ⟨g1, g2⟩, ?_⟩
      show GB_M_served_26 N (G_M_served_26 N f) (nI h) s' = _
      unfold GB_M_served_26 G_M_served_71
      rw [L_10, if_neg (nI_ge hh (by decide)), hha, hu, r6_s, cd_s, Option.bind_some, if_neg (nI_n1 (by omega)), L_6, pk_rem (by omega) (by omega) (by omega), pk_div (by omega) (by omega) (by omega), show (6 * (u / 8) + u % 8) / 6 = u / 8 by omega, show (6 * (u / 8) + u % 8) % 6 = u % 8 by omega]
      dsimp only
      rw [e2, Option.bind_some, stJ_nI hh (by decide), Option.bind_some, nI_1]
  · intro f ⟨s1, ⟨i1, fv, i2, i3⟩, e1⟩
    have hend : G_M_served_26 N (f + 1) (nI 10) s1 = G_M_served_84 N N (nI 0) (nI 0) s1 := by
      show GB_M_served_26 N (G_M_served_26 N f) (nI 10) s1 = _
      unfold GB_M_served_26 G_M_served_78
      rw [if_pos (by decide), L_0]
    refine Exists.elim (lpE (F := fun g h (q : Int32 × mst) => G_M_served_84 N g q.1 (nI h) q.2) (n := 10) (I := fun h q => q.2 = s1 ∧ ∃ v, q.1 = nI v ∧ v < 2 ^ 10 ∧ ∀ j, v.testBit j = true ↔ j < h ∧ (bcL (lN (fv j)) = 1 ∧ ∀ o, o < 10 → ¬ q_shr fv j o)) ?_ N 0 (nI 0, s1) (by omega) (by omega) ⟨rfl, 0, rfl, by decide, bits_0⟩) ?_
    · intro g h ⟨q1, q2⟩ hh ⟨j1, v, j2, j3, j4⟩
      dsimp only at j1 j2
      subst j1 j2
      have inner : ∀ x6 : Nat, x6 < 2 → ∃ y6 : Nat, y6 < 2 ∧ (y6 = 1 ↔ x6 = 1 ∧ ∀ o, o < 10 → ¬ q_shr fv h o) ∧ G_M_served_115 N (G_M_served_84 N g) (nI v) (nI h) N (nI x6) (nI 0) q2 = G_M_served_167 N (G_M_served_84 N g) (nI v) (nI h) (nI y6) q2 := by
        intro x6 hx6
        refine Exists.elim (lpE (F := fun g' o (q : Int32 × mst) => G_M_served_115 N (G_M_served_84 N g) (nI v) (nI h) g' q.1 (nI o) q.2) (n := 10) (I := fun o q => q.2 = q2 ∧ ∃ y6 : Nat, q.1 = nI y6 ∧ y6 < 2 ∧ (y6 = 1 ↔ x6 = 1 ∧ ∀ o', o' < o → ¬ q_shr fv h o')) ?_ N 0 (nI x6, q2) (by omega) (by omega) ⟨rfl, x6, rfl, hx6, ⟨fun e => ⟨e, fun o' ho' => by omega⟩, fun e => e.1⟩⟩) ?_
        · intro g' o ⟨p1, p2⟩ ho ⟨k1, y6, k2, k3, k4⟩
          dsimp only at k1 k2
          subst k1 k2
          have hst : G_M_served_115 N (G_M_served_84 N g) (nI v) (nI h) (g' + 1) (nI y6) (nI o) p2 = if nI y6 = 0 then G_M_served_115 N (G_M_served_84 N g) (nI v) (nI h) g' (nI 0) (nI (o + 1)) p2 else if nI o = nI h then G_M_served_115 N (G_M_served_84 N g) (nI v) (nI h) g' (nI 1) (nI (o + 1)) p2 else if lN (fv o) &&& lN (fv h) = 0 then G_M_served_115 N (G_M_served_84 N g) (nI v) (nI h) g' (nI 1) (nI (o + 1)) p2 else G_M_served_115 N (G_M_served_84 N g) (nI v) (nI h) g' (nI 0) (nI (o + 1)) p2 := by
            show GB_M_served_115 N (G_M_served_84 N g) (G_M_served_115 N (G_M_served_84 N g) (nI v) (nI h) g') (nI v) (nI h) (nI y6) (nI o) p2 = _
            unfold GB_M_served_115 G_M_served_158 G_M_served_154 G_M_served_159
            rw [L_10, if_neg (nI_ge ho (by decide)), rdJ_nI ho (by decide), Option.bind_some, rdJ_nI hh (by decide), Option.bind_some, i3 o ho, i3 h hh, nI_1]
            simp only [lg_cmp_eq]
            simp only [L_0, L_1]
          by_cases hy : y6 = 0
          · refine ⟨(nI 0, p2), ⟨rfl, 0, rfl, by omega, ⟨fun e => by omega, fun e => ?_⟩⟩, hst.trans ?_⟩
            · have := k4.mpr ⟨e.1, fun o' ho' => e.2 o' (by omega)⟩; omega
            · rw [hy, if_pos nI_0]
          · have hy1 : y6 = 1 := by omega
            subst hy1
            rw [if_neg (by decide)] at hst
            by_cases c1 : o = h
            · refine ⟨(nI 1, p2), ⟨rfl, 1, rfl, by omega, ⟨fun _ => ⟨(k4.mp rfl).1, fun o' ho' => ?_⟩, fun _ => rfl⟩⟩, hst.trans ?_⟩
              · by_cases c2 : o' = o
                · rw [c2, c1]; exact fun hs => hs.1 rfl
                · exact (k4.mp rfl).2 o' (by omega)
              · rw [if_pos (by rw [c1])]
            · rw [if_neg (fun e => c1 ((nI_eq (by omega) (by omega)).mp e))] at hst
              by_cases c2 : lN (fv o) &&& lN (fv h) = 0
              · refine ⟨(nI 1, p2), ⟨rfl, 1, rfl, by omega, ⟨fun _ => ⟨(k4.mp rfl).1, fun o' ho' => ?_⟩, fun _ => rfl⟩⟩, hst.trans ?_⟩
                · by_cases c3 : o' = o
                  · rw [c3]; exact fun hs => hs.2 c2
                  · exact (k4.mp rfl).2 o' (by omega)
                · rw [if_pos c2]
              · refine ⟨(nI 0, p2), ⟨rfl, 0, rfl, by omega, ⟨fun e => by omega, fun e => absurd ⟨c1, c2⟩ (e.2 o (by omega))⟩⟩, hst.trans ?_⟩
                rw [if_neg c2]
        · intro g' ⟨⟨p1, p2⟩, ⟨k1, y6, k2, k3, k4⟩, ee⟩
          dsimp only at k1 k2 ee
          subst k1 k2
          refine ⟨y6, k3, k4, Eq.trans ee ?_⟩
          show GB_M_served_115 N (G_M_served_84 N g) (G_M_served_115 N (G_M_served_84 N g) (nI v) (nI h) g') (nI v) (nI h) (nI y6) (nI 10) p2 = _
          unfold GB_M_served_115
          rw [if_pos (by decide)]
      have hst : G_M_served_84 N (g + 1) (nI v) (nI h) q2 = if bcL (lN (fv h)) = 1 then G_M_served_115 N (G_M_served_84 N g) (nI v) (nI h) N (nI 1) (nI 0) q2 else G_M_served_115 N (G_M_served_84 N g) (nI v) (nI h) N (nI 0) (nI 0) q2 := by
        show GB_M_served_84 N (G_M_served_84 N g) (nI v) (nI h) q2 = _
        unfold GB_M_served_84 G_M_served_110
        rw [L_10, if_neg (nI_ge hh (by decide)), rdJ_nI hh (by decide), Option.bind_some, i3 h hh, bcL_g, Option.bind_some]
        simp only [L_0, L_1]
      have h167 : ∀ y6 : Nat, y6 < 2 → G_M_served_167 N (G_M_served_84 N g) (nI v) (nI h) (nI y6) q2 = if y6 = 0 then G_M_served_84 N g (nI v) (nI (h + 1)) q2 else G_M_served_84 N g (nI (v ||| 2 ^ h)) (nI (h + 1)) q2 := by
        intro y6 hy6
        unfold G_M_served_167 G_M_served_182
        rw [nI_1, sh1 (by omega), nI_or]
        by_cases hy : y6 = 0
        · rw [hy, if_pos nI_0, if_pos rfl, L_0, nI_or, Nat.or_zero]
        · rw [if_neg (nI_ne0 (by omega) (by omega)), if_neg hy]
      by_cases c0 : bcL (lN (fv h)) = 1
      · obtain ⟨y6, k1, k2, k3⟩ := inner 1 (by omega)
        rw [if_pos c0, k3, h167 y6 k1] at hst
        by_cases hy : y6 = 0
        · rw [if_pos hy] at hst
          exact ⟨(nI v, q2), ⟨rfl, v, rfl, j3, bits_no j4 (fun hh2 => by have := k2.mpr ⟨rfl, hh2.2⟩; omega)⟩, hst⟩
        · rw [if_neg hy] at hst
          obtain ⟨u1, u2⟩ := bits_up j4 j3 hh ⟨c0, (k2.mp (by omega)).2⟩
          exact ⟨(nI (v ||| 2 ^ h), q2), ⟨rfl, v ||| 2 ^ h, rfl, u1, u2⟩, hst⟩
      · obtain ⟨y6, k1, k2, k3⟩ := inner 0 (by omega)
        have hy : y6 = 0 := by
          have : ¬ y6 = 1 := fun e => by have := (k2.mp e).1; omega
          omega
        rw [if_neg c0, k3, h167 y6 k1, if_pos hy] at hst
        exact ⟨(nI v, q2), ⟨rfl, v, rfl, j3, bits_no j4 (fun hh2 => c0 hh2.1)⟩, hst⟩
    · intro g ⟨⟨q1, q2⟩, ⟨j1, v, j2, j3, j4⟩, ee⟩
      dsimp only at j1 j2 ee
      subst j1 j2
      refine ⟨v, q2, e1.trans (hend.trans (Eq.trans ee ?_)), i1, fv, i2, j3, j4⟩
      show GB_M_served_84 N (G_M_served_84 N g) (nI v) (nI 10) q2 = _
      unfold GB_M_served_84 G_M_served_191
      rw [if_pos (by decide)]
/-- NEIGHBOURS, as bits -/
def NB (A : AP) (w : Nat) (b : Nat × Nat) (wet h v0 v : Nat) : Prop := v < 1024 ∧ ∀ j, v.testBit j = true ↔ j < 10 ∧ (j ≠ h ∧ ∃ u, q_hm A w j = u + 1 ∧ q_R A w b wet v0 (q_nd A w b u 1))
theorem NB_u {h v0 v v' : Nat} (g : NB A w b wet h v0 v) (g' : NB A w b wet h v0 v') : v = v' := by
  apply Nat.eq_of_testBit_eq
  intro j
  rw [Bool.eq_iff_iff]
  exact (g.2 j).trans (g'.2 j).symm
theorem r_neigh (hN : 1000 ≤ N) (ht : t < 6) (hG : GW A w b wet) (hR : RP s t A) (hW : RW s t A w b wet) {h v0 : Nat} (hh : h < 10) (so3 : SO A w b wet v0 s) : ∃ v, G_M_neighbours_71 N (nI h) N 0 0 s = some (nI v, s) ∧ NB A w b wet h v0 v := by
  have hA := hG.1
  refine Exists.elim (lpE (F := fun g o (q : Int32 × mst) => G_M_neighbours_71 N (nI h) g q.1 (nI o) q.2) (n := 10) (I := fun o q => q.2 = s ∧ ∃ v, q.1 = nI v ∧ v < 2 ^ 10 ∧ ∀ j, v.testBit j = true ↔ j < o ∧ (j ≠ h ∧ ∃ u, q_hm A w j = u + 1 ∧ q_R A w b wet v0 (q_nd A w b u 1))) ?_ N 0 (nI 0, s) (by omega) (by omega) ⟨rfl, 0, rfl, by decide, bits_0⟩) ?_
  · intro g o ⟨q1, q2⟩ ho ⟨j1, v, j2, j3, j4⟩
    dsimp only at j1 j2
    subst j1 j2
    have hha := r_hangsAt (N := N) hN hA hW ho
    have hno : ∀ (c : ¬ (o ≠ h ∧ ∃ u, q_hm A w o = u + 1 ∧ q_R A w b wet v0 (q_nd A w b u 1))), G_M_neighbours_71 N (nI h) (g + 1) (nI v) (nI o) q2 = G_M_neighbours_71 N (nI h) g (nI v ||| 0) (nI (o + 1)) q2 → ∃ s' : Int32 × mst, (s'.2 = q2 ∧ ∃ v, s'.1 = nI v ∧ v < 2 ^ 10 ∧ ∀ j, v.testBit j = true ↔ j < o + 1 ∧ (j ≠ h ∧ ∃ u, q_hm A w j = u + 1 ∧ q_R A w b wet v0 (q_nd A w b u 1))) ∧ G_M_neighbours_71 N (nI h) (g + 1) (nI v) (nI o) q2 = G_M_neighbours_71 N (nI h) g s'.1 (nI (o + 1)) s'.2 := by
      intro c e
      refine ⟨(nI v, q2), ⟨rfl, v, rfl, j3, bits_no j4 c⟩, e.trans ?_⟩
      rw [L_0, nI_or, Nat.or_zero]
    have hunf : ∀ (R : Option (Int32 × mst)), GB_M_neighbours_71 N (G_M_neighbours_71 N (nI h) g) (nI h) (nI v) (nI o) q2 = R → G_M_neighbours_71 N (nI h) (g + 1) (nI v) (nI o) q2 = R := fun R e => e
    by_cases c1 : o = h
    · refine hno (fun c => c.1 c1) (hunf _ ?_)
      unfold GB_M_neighbours_71 G_M_neighbours_130 G_M_neighbours_131
      rw [L_10, if_neg (nI_ge ho (by decide)), hha, Option.bind_some, if_pos (by rw [c1]), nI_1]
    · have c1' : ¬ nI o = nI h := fun e => c1 ((nI_eq (by omega) (by omega)).mp e)
      by_cases h0o : q_hm A w o = 0
      · refine hno (fun ⟨_, u, hu, _⟩ => by omega) (hunf _ ?_)
        unfold GB_M_neighbours_71 G_M_neighbours_130 G_M_neighbours_131
        rw [L_10, if_neg (nI_ge ho (by decide)), hha, Option.bind_some, if_neg c1', h0o, r6_0, if_pos cd_0, nI_1]
      · obtain ⟨u, hu⟩ : ∃ u, q_hm A w o = u + 1 := ⟨q_hm A w o - 1, by omega⟩
        have hus := (q_hg_st hA ((q_hm_s hA).mp hu)).1
        have hul := q_st_lt hA hus
        have hfar := r_far (N := N) (by omega) ht hG hR hW hus.1 hus.2
        rw [show 8 * (u / 8) + u % 8 = u by omega] at hfar
        have hno2 := q_nd_ok hG (e := 1) hus
        have hl := nm_lt hA hno2
        have hst : G_M_neighbours_71 N (nI h) (g + 1) (nI v) (nI o) q2 = if q2.1 109 (nm (q_nd A w b u 1)) = 0 then G_M_neighbours_71 N (nI h) g (nI v ||| 0) (nI (o + 1)) q2 else G_M_neighbours_71 N (nI h) g (nI v ||| nI (2 ^ o)) (nI (o + 1)) q2 := by
          show GB_M_neighbours_71 N (G_M_neighbours_71 N (nI h) g) (nI h) (nI v) (nI o) q2 = _
          unfold GB_M_neighbours_71 G_M_neighbours_130 G_M_neighbours_131
          rw [L_10, if_neg (nI_ge ho (by decide)), hha, Option.bind_some, if_neg c1', hu, r6_s, cd_s, if_neg (nI_n1 (by omega)), L_6, pk_rem (by omega) (by omega) (by omega), pk_div (by omega) (by omega) (by omega), show (6 * (u / 8) + u % 8) / 6 = u / 8 by omega, show (6 * (u / 8) + u % 8) % 6 = u % 8 by omega]
          dsimp only
          rw [hfar, Option.bind_some]
          dsimp only
          rw [rdA_nI hl (by decide), Option.bind_some, nI_1, sh1 (by omega)]
        rcases so3 _ hno2 with ⟨a1, a2⟩ | ⟨a1, a2⟩
        · obtain ⟨u1, u2⟩ := bits_up j4 j3 ho ⟨c1, u, hu, a2⟩
          refine ⟨(nI (v ||| 2 ^ o), q2), ⟨rfl, _, rfl, u1, u2⟩, hst.trans ?_⟩
          rw [a1, if_neg (by decide), nI_or]
        · refine hno (fun ⟨_, u', hu', hr⟩ => ?_) (hst.trans ?_)
          · rw [show u' = u by omega] at hr; exact a2 hr
          · rw [a1, if_pos nI_0]
  · intro g ⟨⟨q1, q2⟩, ⟨j1, v, j2, j3, j4⟩, ee⟩
    dsimp only at j1 j2 ee
    subst j1 j2
    refine ⟨v, Eq.trans ee ?_, j3, j4⟩
    show GB_M_neighbours_71 N (G_M_neighbours_71 N (nI h) g) (nI h) (nI v) (nI 10) q2 = _
    unfold GB_M_neighbours_71 G_M_neighbours_140
    rw [if_pos (by decide)]
/-- is a PAIR fed? -/
def q_fz (A : AP) (w : Nat) (b : Nat × Nat) (wet u : Nat) : Prop := ∃ v, FD A w b wet (q_nd A w b u 1) v ∧ v ≠ 0
theorem q_fz_iff {u v : Nat} (h : FD A w b wet (q_nd A w b u 1) v) : q_fz A w b wet u ↔ v ≠ 0 := by
  constructor
  · intro ⟨v', h1, h2⟩
    rw [FD_u h h1]; exact h2
  · intro h1
    exact ⟨v, h, h1⟩
theorem lN_z {v : Nat} (h : v < 2 ^ 42) : lg_cmp (lN v) 0 = 0 ↔ v = 0 := by
  rw [lg_cmp_eq, L0_64, pk_lEQ (by omega) (by omega)]
/-- SPARE, as bits -/
def SPb (A : AP) (w : Nat) (b : Nat × Nat) (c v : Nat) : Prop := v < 1024 ∧ ∀ j, v.testBit j = true ↔ j < q_pr A c ∧ (q_hg A w (8 * c + j) = 0 ∧ q_on A w (8 * c + j) = 0 ∧ q_fz A w b 0 (8 * c + j))
theorem SPb_u {c v v' : Nat} (g : SPb A w b c v) (g' : SPb A w b c v') : v = v' := by
  apply Nat.eq_of_testBit_eq
  intro j
  rw [Bool.eq_iff_iff]
  exact (g.2 j).trans (g'.2 j).symm
theorem r_spare (hN : 1000 ≤ N) (ht : t < 6) (hG : GW A w b 0) (hR : RP s t A) (hW : RW s t A w b 0) {c : Nat} (hcc : c < q_nc A) : ∃ v s', G_M_spare_63 N (nI t) (nI c) N 0 0 s = some (nI v, s') ∧ Md [109] [] s s' ∧ SPb A w b c v := by
  have hA := hG.1
  have hc := hA.1
  unfold WFc at hc
  have hxx := hA.2.1 c hcc
  refine Exists.elim (lpE (F := fun g p (q : Int32 × mst) => G_M_spare_63 N (nI t) (nI c) g q.1 (nI p) q.2) (n := q_pr A c) (I := fun p q => Md [109] [] s q.2 ∧ ∃ v, q.1 = nI v ∧ v < 2 ^ 10 ∧ ∀ j, v.testBit j = true ↔ j < p ∧ (q_hg A w (8 * c + j) = 0 ∧ q_on A w (8 * c + j) = 0 ∧ q_fz A w b 0 (8 * c + j))) ?_ N 0 (nI 0, s) (by omega) (by omega) ⟨Md_r, 0, rfl, by decide, bits_0⟩) ?_
  · intro g p ⟨q1, q2⟩ hp ⟨j1, v, j2, j3, j4⟩
    dsimp only at j1 j2
    subst j2
    have R2 : RP q2 t A := RP_md hR j1 (by decide)
    have W2 : RW q2 t A w b 0 := RW_md hW j1 (by decide) (by decide)
    have e1 := rp_pr R2 hcc
    have e6 : s8 (6 * c + p) = 8 * c + p := by unfold s8; omega
    have e107 : q2.1 107 (6 * c + p) = cd (q_hg A w (8 * c + p)) := by
      have := (W2.2.2.2.2.2.1 (6 * c + p) (by omega)).2
      rw [e6] at this
      exact this
    have e106 : q2.1 106 (6 * c + p) = cd (r6 (q_on A w (8 * c + p))) := by
      have := (W2.2.2.2.2.2.1 (6 * c + p) (by omega)).1
      rw [e6] at this
      exact this
    have hhg : q_hg A w (8 * c + p) ≤ 10 := (LV_lw hA w (q_ns A) (Nat.le_refl _) (8 * c + p)).2
    have hv := q_on_v hA (w := w) (u := 8 * c + p)
    have hle := r6_le hA hv
    have hr60 : r6 (q_on A w (8 * c + p)) = 0 ↔ q_on A w (8 * c + p) = 0 := by
      unfold r6
      constructor
      · intro h; split at h <;> omega
      · intro h; rw [if_pos h]
    obtain ⟨vf, s2, f1, m2, fd⟩ := r_feeds hN ht hG R2 W2 hcc hp
    have hfz := q_fz_iff fd
    have hno : ∀ (s' : mst), Md [109] [] s s' → ¬ (q_hg A w (8 * c + p) = 0 ∧ q_on A w (8 * c + p) = 0 ∧ q_fz A w b 0 (8 * c + p)) → G_M_spare_63 N (nI t) (nI c) (g + 1) (nI v) (nI p) q2 = G_M_spare_63 N (nI t) (nI c) g (nI v ||| 0) (nI (p + 1)) s' → ∃ s'' : Int32 × mst, (Md [109] [] s s''.2 ∧ ∃ v, s''.1 = nI v ∧ v < 2 ^ 10 ∧ ∀ j, v.testBit j = true ↔ j < p + 1 ∧ (q_hg A w (8 * c + j) = 0 ∧ q_on A w (8 * c + j) = 0 ∧ q_fz A w b 0 (8 * c + j))) ∧ G_M_spare_63 N (nI t) (nI c) (g + 1) (nI v) (nI p) q2 = G_M_spare_63 N (nI t) (nI c) g s''.1 (nI (p + 1)) s''.2 := by
      intro s' ms' cc ee
      refine ⟨(nI v, s'), ⟨ms', v, rfl, j3, bits_no j4 cc⟩, ee.trans ?_⟩
      rw [L_0, nI_or, Nat.or_zero]
    have hunf : ∀ (R : Option (Int32 × mst)), GB_M_spare_63 N (G_M_spare_63 N (nI t) (nI c) g) (nI t) (nI c) (nI v) (nI p) q2 = R → G_M_spare_63 N (nI t) (nI c) (g + 1) (nI v) (nI p) q2 = R := fun R e => e
    by_cases c1 : q_hg A w (8 * c + p) = 0
    · by_cases c2 : q_on A w (8 * c + p) = 0
      · have hst : G_M_spare_63 N (nI t) (nI c) (g + 1) (nI v) (nI p) q2 = if lg_cmp (lN vf) 0 = 0 then G_M_spare_63 N (nI t) (nI c) g (nI v ||| 0) (nI (p + 1)) s2 else G_M_spare_63 N (nI t) (nI c) g (nI v ||| nI (2 ^ p)) (nI (p + 1)) s2 := by
          refine hunf _ ?_
          unfold GB_M_spare_63 G_M_spare_136 G_M_spare_137
          rw [L_7, nI_mul, nI_add, rdA_nI (by omega) (by decide), Option.bind_some, e1, if_neg (nI_ge hp (by omega)), L_6, nI_mul, nI_add, rdA_nI (by omega) (by decide), Option.bind_some, e107, if_pos ((cd_n1 (by omega)).mpr c1), rdA_nI (by omega) (by decide), Option.bind_some, e106, if_pos ((cd_n1 (by omega)).mpr (hr60.mpr c2)), f1, Option.bind_some]
          dsimp only
          rw [nI_1, sh1 (by omega)]
        by_cases c3 : vf = 0
        · refine hno s2 (Md_t j1 m2) (fun hh => (hfz.mp hh.2.2) c3) (hst.trans ?_)
          rw [if_pos ((lN_z fd.1).mpr c3)]
        · obtain ⟨u1, u2⟩ := bits_up j4 j3 (show p < 10 by omega) ⟨c1, c2, hfz.mpr c3⟩
          refine ⟨(nI (v ||| 2 ^ p), s2), ⟨Md_t j1 m2, _, rfl, u1, u2⟩, hst.trans ?_⟩
          rw [if_neg (fun e => c3 ((lN_z fd.1).mp e)), nI_or]
      · refine hno q2 j1 (fun hh => c2 hh.2.1) (hunf _ ?_)
        unfold GB_M_spare_63 G_M_spare_136 G_M_spare_137
        rw [L_7, nI_mul, nI_add, rdA_nI (by omega) (by decide), Option.bind_some, e1, if_neg (nI_ge hp (by omega)), L_6, nI_mul, nI_add, rdA_nI (by omega) (by decide), Option.bind_some, e107, if_pos ((cd_n1 (by omega)).mpr c1), rdA_nI (by omega) (by decide), Option.bind_some, e106, if_neg (fun e => c2 (hr60.mp ((cd_n1 (by omega)).mp e))), nI_1]
    · refine hno q2 j1 (fun hh => c1 hh.1) (hunf _ ?_)
      unfold GB_M_spare_63 G_M_spare_136 G_M_spare_137
      rw [L_7, nI_mul, nI_add, rdA_nI (by omega) (by decide), Option.bind_some, e1, if_neg (nI_ge hp (by omega)), L_6, nI_mul, nI_add, rdA_nI (by omega) (by decide), Option.bind_some, e107, if_neg (fun e => c1 ((cd_n1 (by omega)).mp e)), nI_1]
  · intro g ⟨⟨q1, q2⟩, ⟨j1, v, j2, j3, j4⟩, ee⟩
    dsimp only at j1 j2 ee
    subst j2
    have R2 : RP q2 t A := RP_md hR j1 (by decide)
    refine ⟨v, q2, Eq.trans ee ?_, j1, j3, j4⟩
    show GB_M_spare_63 N (G_M_spare_63 N (nI t) (nI c) g) (nI t) (nI c) (nI v) (nI (q_pr A c)) q2 = _
    unfold GB_M_spare_63 G_M_spare_146
    rw [L_7, nI_mul, nI_add, rdA_nI (by omega) (by decide), Option.bind_some, rp_pr R2 hcc, if_pos (nI_le (Nat.le_refl _) (by omega))]
end HSR
