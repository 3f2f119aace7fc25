section MVS
variable {N t x : Nat} {s : mst} {A : AP} {U : Nat → Prop} {m : MV}
theorem RV_gone (hV : RV s x U m) {h : Nat} : RV (wr1 s 127 h (nI 1)) x U (mgone m h) := by
  obtain ⟨v1, v2, v3, v4, v5, v6⟩ := hV
  refine ⟨v1, ?_, fun h' hh' => ?_, ?_, ?_, ?_⟩
  · rw [wr1_ne (by decide)]; exact v2
  · rw [wr1_at]
    show _ = nI (updN m.2.1 h 1 h') ∧ updN m.2.1 h 1 h' ≤ 1
    by_cases c : h' = h
    · rw [if_pos c, c, updN_s]; exact ⟨rfl, by omega⟩
    · rw [if_neg c, updN_n c]; exact v3 h' hh'
  · rw [wr1_ne (by decide)]; exact v4
  · rw [wr1_ne (by decide)]; exact v5
  · rw [wr1_ne (by decide)]; exact v6
theorem r_gw33 (hN : 100 ≤ N) (ht : t < 6) (hA : WF A) (hx : x < q_nc A) (hR : RP s t A) (h29 : s.1 85 29 = nI t) (hV : RV s x U m) (hn : m.2.2.1 < 26) {q : Nat} (hq : q < 6) (hf : ∀ h, h < 10 → m.1 h ≠ q + 1) : (q_sd (q_wt A) m = 0 ∧ G_M_givesWay_33 N (nI x) (nI q) N (nI 0) s = some (0, s)) ∨ (q_sd (q_wt A) m ≠ 0 ∧ ∃ s', G_M_givesWay_33 N (nI x) (nI q) N (nI 0) s = some (1, s') ∧ Md [107, 127, 128] [57] s s' ∧ RV s' x U (mgo (mgone m (q_sd (q_wt A) m - 1)) (q_sd (q_wt A) m - 1) q)) := by
  have hx7 : x < 7 := by have := hA.1; unfold WFc at this; omega
  have key : ∀ fuel h, h ≤ 10 → 10 < fuel + h → (∀ h', h' < h → ¬ asP (q_wt A) m.1 m.2.1 h') → ((∀ h', h' < 10 → ¬ asP (q_wt A) m.1 m.2.1 h') ∧ G_M_givesWay_33 N (nI x) (nI q) fuel (nI h) s = some (0, s)) ∨ ∃ h' s', h' < 10 ∧ asP (q_wt A) m.1 m.2.1 h' ∧ (∀ j, j < h' → ¬ asP (q_wt A) m.1 m.2.1 j) ∧ G_M_givesWay_33 N (nI x) (nI q) fuel (nI h) s = some (1, s') ∧ Md [107, 127, 128] [57] s s' ∧ RV s' x U (mgo (mgone m h') h' q) := by
    intro fuel
    induction fuel with
    | zero => intro h h1 h2; omega
    | succ f ih =>
      intro h h1 h2 h3
      have hst : G_M_givesWay_33 N (nI x) (nI q) (f + 1) (nI h) s = GB_M_givesWay_33 N (G_M_givesWay_33 N (nI x) (nI q) f) (nI x) (nI q) (nI h) s := rfl
      rw [hst]
      unfold GB_M_givesWay_33 G_M_givesWay_145
      rw [L_10]
      by_cases c : h = 10
      · rw [if_pos (nI_le (by omega) (by omega))]
        exact Or.inl ⟨fun h' hh' => h3 h' (by omega), rfl⟩
      · rw [if_neg (nI_ge (by omega) (by omega))]
        have hh : h < 10 := by omega
        have hw : q_wt A h ≤ 6 := hA.2.2.2.2.2.2.2 h hh
        have h125 : s.1 125 (10 * t + h) = cd (q_wt A h) := hR.2.2.2.2.2 h hh
        obtain ⟨g1, g2⟩ := hV.2.2.1 h hh
        have next : ¬ asP (q_wt A) m.1 m.2.1 h → ((∀ h', h' < 10 → ¬ asP (q_wt A) m.1 m.2.1 h') ∧ G_M_givesWay_139 N (G_M_givesWay_33 N (nI x) (nI q) f) (nI x) (nI q) (nI h) s = some (0, s)) ∨ ∃ h' s', h' < 10 ∧ asP (q_wt A) m.1 m.2.1 h' ∧ (∀ j, j < h' → ¬ asP (q_wt A) m.1 m.2.1 j) ∧ G_M_givesWay_139 N (G_M_givesWay_33 N (nI x) (nI q) f) (nI x) (nI q) (nI h) s = some (1, s') ∧ Md [107, 127, 128] [57] s s' ∧ RV s' x U (mgo (mgone m h') h' q) := by
          intro hno
          unfold G_M_givesWay_139
          rw [nI_1]
          refine ih (h + 1) (by omega) (by omega) (fun h' hh' => ?_)
          by_cases e : h' = h
          · rw [e]; exact hno
          · exact h3 h' (by omega)
        rcases r_isAstray (N := N) hN ht hx7 hA hR h29 hV hh with ⟨a1, a2⟩ | ⟨a1, a2⟩
        · rw [a1, Option.bind_some]
          dsimp only
          have hw0 := a2.2.1
          obtain ⟨p, hp⟩ : ∃ p, q_wt A h = p + 1 := ⟨q_wt A h - 1, by omega⟩
          obtain ⟨v, w1, w2, w3⟩ := hV.2.1 p (by omega)
          rw [if_neg i10, rdA_nI (by omega) (by decide), Option.bind_some, g1]
          by_cases cg : m.2.1 h = 0
          · rw [if_pos (by rw [cg]; rfl), h29, nI_mul, nI_add, rdA_nI (by omega) (by decide), Option.bind_some, h125, hp, cd_s, r_isIn, Option.bind_some]
            dsimp only
            rw [if_neg (nI_pos (by omega)), L_5, if_neg (nI_nlt (by omega) (by omega)), if_neg i10, L_6, nI_mul, nI_add, rdA_nI (by omega) (by decide), Option.bind_some, w2]
            unfold G_M_givesWay_102
            by_cases cv : v = 0
            · rw [if_pos (by rw [cv, cd_0])]
              exact next (fun z => by
                obtain ⟨_, _, h', z1, z2, z3⟩ := z
                have := (w3 h' z1).mpr (by rw [z2, hp])
                omega)
            · obtain ⟨k, hk⟩ : ∃ k, v = k + 1 := ⟨v - 1, by omega⟩
              have hk10 : k < 10 := by omega
              have hka := (w3 k hk10).mp hk
              rw [if_neg (fun e => cv ((cd_n1 (by omega)).mp e)), hk, cd_s]
              rcases r_isAstray (N := N) hN ht hx7 hA hR h29 hV hk10 with ⟨b1, b2⟩ | ⟨b1, b2⟩
              · rw [b1, Option.bind_some]
                dsimp only
                rw [if_neg i10]
                unfold G_M_givesWay_123
                have hns : stA 3 s 127 10 (nI h) 1 = some (wr1 s 127 h (nI 1)) := stZ_nI hh (by decide)
                obtain ⟨s', e1, e2, e3⟩ := r_goes (N := N) (s := wr1 s 127 h (nI 1)) hN hx7 (RV_gone hV (h := h)) hn hh hq hf
                rw [hns, Option.bind_some, e1, Option.bind_some]
                exact Or.inr ⟨h, s', hh, ⟨a2, cg, k, hk10, by rw [hka, hp], b2⟩, h3, rfl, Md_t (Md_w (by decide) (by decide)) (Md_m e2 (by decide) (by decide)), e3⟩
              · rw [b1, Option.bind_some]
                dsimp only
                rw [if_pos rfl]
                exact next (fun z => by
                  obtain ⟨_, _, h', z1, z2, z3⟩ := z
                  have hh' := (w3 h' z1).mpr (by rw [z2, hp])
                  have : h' = k := by omega
                  rw [this] at z3
                  exact b2 z3)
          · rw [if_neg (nI_ne0 (by omega) (by omega))]
            exact next (fun z => cg z.2.1)
        · rw [a1, Option.bind_some]
          dsimp only
          rw [if_pos rfl]
          exact next (fun z => a2 z.1)
  rcases key N 0 (by omega) (by omega) (fun h' hh' => by omega) with ⟨k1, k2⟩ | ⟨h', s', k1, k2, k3, k4, k5, k6⟩
  · exact Or.inl ⟨q_fp_z k1, k2⟩
  · have e : q_sd (q_wt A) m = h' + 1 := q_fp_eq k1 k2 k3
    rw [e, Nat.add_sub_cancel]
    exact Or.inr ⟨by omega, s', k4, k5, k6⟩
theorem r_givesWay (hN : 100 ≤ N) (ht : t < 6) (hA : WF A) (hx : x < q_nc A) (hR : RP s t A) (h29 : s.1 85 29 = nI t) (hV : RV s x U m) (hU : ∀ p, U p → p < q_pr A x) (hn : m.2.2.1 < 26) : ((q_fr6 U m = 0 ∨ q_sd (q_wt A) m = 0) ∧ G_M_givesWay N s (nI x) = some (0, s)) ∨ ((q_fr6 U m ≠ 0 ∧ q_sd (q_wt A) m ≠ 0) ∧ ∃ s', G_M_givesWay N s (nI x) = some (1, s') ∧ Md [107, 127, 128] [57] s s' ∧ RV s' x U (mgo (mgone m (q_sd (q_wt A) m - 1)) (q_sd (q_wt A) m - 1) (q_fr6 U m - 1))) := by
  unfold G_M_givesWay
  have key : ∀ fuel p, p ≤ 6 → 6 < fuel + p → (∀ p', p' < p → ¬ fre U m.1 p') → ((∀ p', p' < 6 → ¬ fre U m.1 p') ∧ G_M_givesWay_2 N (nI x) fuel (nI p) s = some (0, s)) ∨ ∃ p', p' < 6 ∧ fre U m.1 p' ∧ (∀ j, j < p' → ¬ fre U m.1 j) ∧ G_M_givesWay_2 N (nI x) fuel (nI p) s = G_M_givesWay_33 N (nI x) (nI p') N (nI 0) s := by
    intro fuel
    induction fuel with
    | zero => intro p h1 h2; omega
    | succ f ih =>
      intro p h1 h2 h3
      have hst : G_M_givesWay_2 N (nI x) (f + 1) (nI p) s = GB_M_givesWay_2 N (G_M_givesWay_2 N (nI x) f) (nI x) (nI p) s := rfl
      rw [hst]
      unfold GB_M_givesWay_2 G_M_givesWay_23
      rw [L_6]
      by_cases c : p = 6
      · rw [if_pos (nI_le (by omega) (by omega)), if_pos (by rw [c])]
        exact Or.inl ⟨fun p' hp' => h3 p' (by omega), rfl⟩
      · rw [if_neg (nI_ge (by omega) (by omega)), nI_1]
        rcases r_isFree (N := N) ht hA hx hR h29 hV hU (show p < 6 by omega) with ⟨b1, b2⟩ | ⟨b1, b2⟩
        · rw [b1, Option.bind_some]
          dsimp only
          rw [if_neg i10, if_neg (fun e => c ((nI_eq (by omega) (by omega)).mp e))]
          exact Or.inr ⟨p, by omega, b2, h3, rfl⟩
        · rw [b1, Option.bind_some]
          dsimp only
          rw [if_pos rfl]
          refine ih (p + 1) (by omega) (by omega) (fun p' hp' => ?_)
          by_cases e : p' = p
          · rw [e]; exact b2
          · exact h3 p' (by omega)
  rcases key N 0 (by omega) (by omega) (fun p' hp' => by omega) with ⟨k1, k2⟩ | ⟨p', k1, k2, k3, k4⟩
  · exact Or.inl ⟨Or.inl (q_fp_z k1), k2⟩
  · have e : q_fr6 U m = p' + 1 := q_fp_eq k1 k2 k3
    rw [e, Nat.add_sub_cancel, L_0, k4]
    rcases r_gw33 (N := N) hN ht hA hx hR h29 hV hn k1 k2.2 with ⟨g1, g2⟩ | ⟨g1, g2⟩
    · exact Or.inl ⟨Or.inr g1, g2⟩
    · exact Or.inr ⟨⟨by omega, g1⟩, g2⟩
/-- one turn -/
theorem r_mturn (hN : 200 ≤ N) (ht : t < 6) (hA : WF A) (hx : x < q_nc A) (hR : RP s t A) (h29 : s.1 85 29 = nI t) (hV : RV s x U m) (hU : ∀ p, U p → p < q_pr A x) (hn : m.2.2.1 < 26) {p3 : Int32} {f : Nat} : (mstk (q_wt A) U m ∧ G_M_moves_164 N p3 (nI x) (f + 2) (nI 1) s = G_M_moves_197 N p3 s) ∨ (¬ mstk (q_wt A) U m ∧ ∃ s', G_M_moves_164 N p3 (nI x) (f + 2) (nI 1) s = G_M_moves_164 N p3 (nI x) (f + 1) (nI 1) s' ∧ Md [107, 127, 128] [57] s s' ∧ RV s' x U (mstp (q_wt A) U m)) := by
  have hst : G_M_moves_164 N p3 (nI x) (f + 2) (nI 1) s = GB_M_moves_164 N (G_M_moves_164 N p3 (nI x) (f + 1)) p3 (nI x) (nI 1) s := rfl
  rw [hst]
  unfold GB_M_moves_164 G_M_moves_187 G_M_moves_192
  rw [if_neg (show ¬ nI 1 = 0 by decide)]
  rcases r_goesHome (N := N) (by omega) ht hA hx hR h29 hV hU hn with ⟨g1, g2⟩ | ⟨g1, s', g2, g3, g4⟩
  · rw [g2, Option.bind_some]
    dsimp only
    rw [if_pos rfl]
    rcases r_givesWay (N := N) (by omega) ht hA hx hR h29 hV hU hn with ⟨w1, w2⟩ | ⟨w1, s', w2, w3, w4⟩
    · rw [w2, Option.bind_some]
      dsimp only
      rw [if_pos rfl]
      refine Or.inl ⟨⟨g1, w1⟩, ?_⟩
      have h2 : G_M_moves_164 N p3 (nI x) (f + 1) 0 s = GB_M_moves_164 N (G_M_moves_164 N p3 (nI x) f) p3 (nI x) 0 s := rfl
      rw [h2]
      unfold GB_M_moves_164
      rw [if_pos rfl]
    · rw [w2, Option.bind_some]
      dsimp only
      rw [if_neg i10]
      refine Or.inr ⟨fun z => ?_, s', rfl, w3, ?_⟩
      · rcases z.2 with z2 | z2
        · exact w1.1 z2
        · exact w1.2 z2
      · unfold mstp
        rw [if_neg (fun z => z g1), if_pos w1]
        exact w4
  · rw [g2, Option.bind_some]
    dsimp only
    rw [if_neg i10]
    refine Or.inr ⟨fun z => g1 z.1, s', rfl, Md_m g3 (by decide) (by decide), ?_⟩
    unfold mstp
    rw [if_pos g1]
    exact g4
/-- all MOVES -/
theorem r_moves164 (hN : 200 ≤ N) (ht : t < 6) (hA : WF A) (hx : x < q_nc A) (hR : RP s t A) (h29 : s.1 85 29 = nI t) {m0 : MV} (hV : RV s x U m0) (hU : ∀ p, U p → p < q_pr A x) (h0 : m0.2.2.1 = 0) {p3 : Int32} {K : Nat} (hK : K = 20) : ∃ s', G_M_moves_164 N p3 (nI x) N (nI 1) s = G_M_moves_197 N p3 s' ∧ Md [107, 127, 128] [57] s s' ∧ RV s' x U (mrun (q_wt A) U m0 K) := by
  have hstK : mstk (q_wt A) U (mrun (q_wt A) U m0 K) := mrun_K (by rw [hK]; exact mph_le)
  have key : ∀ d k fuel s', k + d = K → d + 1 < fuel → Md [107, 127, 128] [57] s s' → RV s' x U (mrun (q_wt A) U m0 k) → ∃ s'', G_M_moves_164 N p3 (nI x) fuel (nI 1) s' = G_M_moves_197 N p3 s'' ∧ Md [107, 127, 128] [57] s s'' ∧ RV s'' x U (mrun (q_wt A) U m0 K) := by
    intro d
    induction d with
    | zero =>
      intro k fuel s' hk hf hm hV'
      have hkK : k = K := by omega
      rw [hkK] at hV'
      obtain ⟨f, rfl⟩ : ∃ f, fuel = f + 2 := ⟨fuel - 2, by omega⟩
      have hnn := mrun_n (W := q_wt A) (U := U) h0 K
      have R' : RP s' t A := RP_md hR hm (by decide)
      have h29' : s'.1 85 29 = nI t := by rw [hm.2.1 29 (by decide)]; exact h29
      rcases r_mturn (N := N) (p3 := p3) (f := f) hN ht hA hx R' h29' hV' hU (by omega) with ⟨a1, a2⟩ | ⟨a1, _⟩
      · exact ⟨s', a2, hm, hV'⟩
      · exact absurd hstK a1
    | succ d ih =>
      intro k fuel s' hk hf hm hV'
      obtain ⟨f, rfl⟩ : ∃ f, fuel = f + 2 := ⟨fuel - 2, by omega⟩
      have hnn := mrun_n (W := q_wt A) (U := U) h0 k
      have R' : RP s' t A := RP_md hR hm (by decide)
      have h29' : s'.1 85 29 = nI t := by rw [hm.2.1 29 (by decide)]; exact h29
      rcases r_mturn (N := N) (p3 := p3) (f := f) hN ht hA hx R' h29' hV' hU (by omega) with ⟨a1, a2⟩ | ⟨a1, s2, a2, a3, a4⟩
      · refine ⟨s', a2, hm, ?_⟩
        rw [← hk, mrun_s a1]
        exact hV'
      · rw [a2]
        exact ih (k + 1) (f + 1) s2 (by omega) (by omega) (Md_t hm a3) a4
  exact key K 0 N s (by omega) (by omega) Md_r hV
end MVS
