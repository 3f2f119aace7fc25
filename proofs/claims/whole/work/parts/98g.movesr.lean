/-! ===== MOVES: the reference ===== -/
def RV (s : mst) (x : Nat) (U : Nat → Prop) (m : MV) : Prop := (∀ h, h < 10 → m.1 h ≤ 6) ∧ (∀ p, p < 6 → ∃ v, v ≤ 10 ∧ s.1 107 (6 * x + p) = cd v ∧ ∀ h, h < 10 → (v = h + 1 ↔ m.1 h = p + 1)) ∧ (∀ h, h < 10 → (s.1 127 h = nI (m.2.1 h)) ∧ m.2.1 h ≤ 1) ∧ (∀ p, p < 6 → (s.1 126 p = nI 1 ∧ U p) ∨ (s.1 126 p = nI 0 ∧ ¬ U p)) ∧ s.1 85 57 = nI m.2.2.1 ∧ ∀ j, j < m.2.2.1 → s.1 128 j = nI (m.2.2.2 j)
section MVR
variable {N t x : Nat} {s : mst} {A : AP} {U : Nat → Prop} {m : MV}
theorem r_pairOf (hN : 100 ≤ N) (hx : x < 7) (hV : RV s x U m) {h : Nat} (hh : h < 10) : G_M_pairOf N s (nI x) (nI h) = some (cd (m.1 h), s) := by
  obtain ⟨v1, v2, _⟩ := hV
  have hle := v1 h hh
  unfold G_M_pairOf
  have key : ∀ fuel p, p ≤ 6 → 6 < fuel + p → (∀ p', p' < p → m.1 h ≠ p' + 1) → G_M_pairOf_2 N (nI x) (nI h) fuel (nI p) s = some (cd (m.1 h), s) := by
    intro fuel
    induction fuel with
    | zero => intro p h1 h2; omega
    | succ f ih =>
      intro p h1 h2 h3
      show GB_M_pairOf_2 N (G_M_pairOf_2 N (nI x) (nI h) f) (nI x) (nI h) (nI p) s = _
      unfold GB_M_pairOf_2 G_M_pairOf_31 G_M_pairOf_23
      rw [L_6]
      by_cases c : p = 6
      · rw [if_pos (nI_le (by omega) (by omega))]
        have : m.1 h = 0 := by
          apply Classical.byContradiction
          intro hne
          exact h3 (m.1 h - 1) (by omega) (by omega)
        rw [this, cd_0]
      · obtain ⟨v, w1, w2, w3⟩ := v2 p (by omega)
        rw [if_neg (nI_ge (by omega) (by omega)), nI_mul, nI_add, rdA_nI (by omega) (by decide), Option.bind_some, w2]
        by_cases d : v = h + 1
        · rw [if_pos (by rw [d, cd_s]), (w3 h hh).mp d, cd_s]
        · rw [if_neg (fun e => d ((cd_nI (by omega) (by omega)).mp e)), nI_1]
          refine ih (p + 1) (by omega) (by omega) (fun p' hp' => ?_)
          by_cases e : p' = p
          · rw [e]; exact fun z => d ((w3 h hh).mpr z)
          · exact h3 p' (by omega)
  exact key N 0 (by omega) (by omega) (fun p' hp' => by omega)
theorem r_isAstray (hN : 100 ≤ N) (ht : t < 6) (hx : x < 7) (hA : WF A) (hR : RP s t A) (h29 : s.1 85 29 = nI t) (hV : RV s x U m) {h : Nat} (hh : h < 10) : (G_M_isAstray N s (nI x) (nI h) = some (1, s) ∧ ast (q_wt A) m.1 h) ∨ (G_M_isAstray N s (nI x) (nI h) = some (0, s) ∧ ¬ ast (q_wt A) m.1 h) := by
  have hw : q_wt A h ≤ 6 := hA.2.2.2.2.2.2.2 h hh
  have h125 : s.1 125 (10 * t + h) = cd (q_wt A h) := hR.2.2.2.2.2 h hh
  have hle := hV.1 h hh
  unfold G_M_isAstray G_M_isAstray_44 G_M_isAstray_45
  rw [h29, L_10, nI_mul, nI_add, rdA_nI (by omega) (by decide), Option.bind_some, h125, r_pairOf hN hx hV hh, Option.bind_some]
  dsimp only
  rw [r_pairOf hN hx hV hh, Option.bind_some]
  dsimp only
  unfold ast
  by_cases c1 : q_wt A h = 0
  · rw [if_pos ((cd_n1 (by omega)).mpr c1), if_pos (Or.inl rfl)]
    exact Or.inr ⟨rfl, fun z => z.2.1 c1⟩
  · rw [if_neg (show ¬ cd (q_wt A h) = -1 from fun e => c1 ((cd_n1 (by omega)).mp e))]
    by_cases c2 : m.1 h = 0
    · rw [if_pos ((cd_n1 (by omega)).mpr c2), if_pos (Or.inl rfl)]
      exact Or.inr ⟨rfl, fun z => z.1 c2⟩
    · rw [if_neg (show ¬ cd (m.1 h) = -1 from fun e => c2 ((cd_n1 (by omega)).mp e))]
      by_cases c3 : m.1 h = q_wt A h
      · rw [if_pos (by rw [c3]), if_pos (Or.inl rfl)]
        exact Or.inr ⟨rfl, fun z => z.2.2 c3⟩
      · rw [if_neg (fun e => c3 ((cd_eq (by omega) (by omega)).mp e)), if_pos (Or.inr rfl)]
        exact Or.inl ⟨rfl, c2, c1, c3⟩
theorem r_isFree (ht : t < 6) (hA : WF A) (hx : x < q_nc A) (hR : RP s t A) (h29 : s.1 85 29 = nI t) (hV : RV s x U m) (hU : ∀ p, U p → p < q_pr A x) {p : Nat} (hp : p < 6) : (G_M_isFree N s (nI x) (nI p) = some (1, s) ∧ fre U m.1 p) ∨ (G_M_isFree N s (nI x) (nI p) = some (0, s) ∧ ¬ fre U m.1 p) := by
  have hc := hA.1
  unfold WFc at hc
  have hxx := hA.2.1 x hx
  obtain ⟨v1, v2, _, v4, _⟩ := hV
  have h91 : s.1 91 (7 * t + x) = nI (q_pr A x) := (hR.1.2.2 x hx).2.2.1
  obtain ⟨v, w1, w2, w3⟩ := v2 p hp
  unfold G_M_isFree G_M_isFree_52 G_M_isFree_53
  rw [h29, L_7, nI_mul, nI_add, rdA_nI (by omega) (by decide), Option.bind_some, h91, r_isIn, Option.bind_some]
  dsimp only
  rw [if_neg (nI_pos (by omega))]
  unfold fre
  by_cases c1 : q_pr A x ≤ p
  · rw [if_pos ((nI_m1_lt (by omega)).mpr (nI_le c1 (by omega))), if_pos rfl, if_pos (Or.inl rfl)]
    exact Or.inr ⟨rfl, fun z => by have := hU p z.1; omega⟩
  · rw [if_neg (fun e => absurd ((nI_m1_lt (by omega)).mp e) (nI_ge (by omega) (by omega))), if_neg i10, rdA_nI (by omega) (by decide), Option.bind_some, L_6, nI_mul, nI_add, rdA_nI (by omega) (by decide), Option.bind_some, w2]
    rcases v4 p hp with ⟨u1, u2⟩ | ⟨u1, u2⟩
    · rw [u1, if_neg (show ¬ nI 1 = 0 by decide)]
      by_cases c2 : v = 0
      · rw [if_pos (by rw [c2, cd_0]), if_pos (Or.inr rfl)]
        exact Or.inl ⟨rfl, u2, fun h hh e => by have := (w3 h hh).mpr e; omega⟩
      · rw [if_neg (fun e => c2 ((cd_n1 (by omega)).mp e)), if_pos (Or.inl rfl)]
        exact Or.inr ⟨rfl, fun z => z.2 (v - 1) (by omega) ((w3 (v - 1) (by omega)).mp (by omega))⟩
    · rw [u1, if_pos (show nI 0 = 0 from rfl), if_pos (Or.inl rfl)]
      exact Or.inr ⟨rfl, fun z => u2 z.1⟩
theorem r_goes (hN : 100 ≤ N) (hx : x < 7) (hV : RV s x U m) (hn : m.2.2.1 < 26) {h p : Nat} (hh : h < 10) (hp : p < 6) (hf : ∀ h, h < 10 → m.1 h ≠ p + 1) : ∃ s', G_M_goes N s (nI x) (nI h) (nI p) = some s' ∧ Md [107, 128] [57] s s' ∧ RV s' x U (mgo m h p) := by
  obtain ⟨v1, v2, v3, v4, v5, v6⟩ := hV
  obtain ⟨s1, f1, f2, f3⟩ := r_unhang (N := N) (s := s) (v := nI h) (by omega)
  have m1 : Md [107, 128] [57] s s1 := Md_m f2 (by decide) (by decide)
  have k57 : s1.1 85 57 = nI m.2.2.1 := by rw [f2.2.1 57 (by decide)]; exact v5
  refine ⟨wr1 (wr1 (wr1 s1 107 (6 * x + p) (nI h)) 128 m.2.2.1 (nI (8 * h + p))) 85 57 (nI (m.2.2.1 + 1)), ?_, Md_t m1 (Md_t (Md_t (Md_w (by decide) (by decide)) (Md_w (by decide) (by decide))) (Md_f (by decide))), ?_, ?_, ?_, ?_, ?_, ?_⟩
  · unfold G_M_goes
    rw [f1, Option.bind_some, L_6, nI_mul, nI_add, stA_nI (by omega) (by decide), Option.bind_some, wr1_ne (by decide), k57, L_8, nI_mul, nI_add, stA_nI (by omega) (by decide), Option.bind_some, wr1_ne (by decide), wr1_ne (by decide), k57, nI_1]
    rfl
  · intro h' hh'
    show updN m.1 h (p + 1) h' ≤ 6
    unfold updN
    split
    · omega
    · exact v1 h' hh'
  · intro p' hp'
    have e107 : (wr1 (wr1 (wr1 s1 107 (6 * x + p) (nI h)) 128 m.2.2.1 (nI (8 * h + p))) 85 57 (nI (m.2.2.1 + 1))).1 107 (6 * x + p') = if p' = p then nI h else s1.1 107 (6 * x + p') := by
      rw [wr1_ne (by decide), wr1_ne (by decide), wr1_at]
      by_cases c : p' = p
      · rw [if_pos c, if_pos (by omega)]
      · rw [if_neg c, if_neg (by omega)]
    rw [e107]
    show ∃ v, v ≤ 10 ∧ _ = cd v ∧ ∀ h', h' < 10 → (v = h' + 1 ↔ updN m.1 h (p + 1) h' = p' + 1)
    obtain ⟨v, w1, w2, w3⟩ := v2 p' hp'
    by_cases c : p' = p
    · rw [if_pos c, c]
      refine ⟨h + 1, by omega, by rw [cd_s], fun h' hh' => ?_⟩
      by_cases d : h' = h
      · rw [d, updN_s]; exact ⟨fun _ => rfl, fun _ => rfl⟩
      · rw [updN_n d]; exact ⟨fun e => by omega, fun e => absurd e (hf h' hh')⟩
    · rw [if_neg c, f3 _ (by omega), w2]
      by_cases d : v = h + 1
      · rw [if_pos (by rw [d, cd_s])]
        refine ⟨0, by omega, rfl, fun h' hh' => ⟨fun e => by omega, fun e => ?_⟩⟩
        by_cases d2 : h' = h
        · rw [d2, updN_s] at e; omega
        · rw [updN_n d2] at e
          have := (w3 h' hh').mpr e
          omega
      · rw [if_neg (fun e => d ((cd_nI (by omega) (by omega)).mp e))]
        refine ⟨v, w1, rfl, fun h' hh' => ?_⟩
        by_cases d2 : h' = h
        · rw [d2, updN_s]; exact ⟨fun e => absurd e d, fun e => by omega⟩
        · rw [updN_n d2]; exact w3 h' hh'
  · intro h' hh'
    rw [wr1_ne (by decide), wr1_ne (by decide), wr1_ne (by decide), f2.1 127 (by decide) (by decide)]
    exact v3 h' hh'
  · intro p' hp'
    rw [wr1_ne (by decide), wr1_ne (by decide), wr1_ne (by decide), f2.1 126 (by decide) (by decide)]
    exact v4 p' hp'
  · rw [wr1_at, if_pos rfl]
    rfl
  · intro j hj
    have hj' : j < m.2.2.1 + 1 := hj
    rw [wr1_ne (by decide), wr1_at]
    show _ = nI (updN m.2.2.2 m.2.2.1 (8 * h + p) j)
    by_cases c : j = m.2.2.1
    · rw [if_pos c, c, updN_s]
    · rw [if_neg c, updN_n c, wr1_ne (by decide), f2.1 128 (by decide) (by decide)]
      exact v6 j (by omega)
theorem RV_md {s' : mst} {K J : List Nat} (hV : RV s x U m) (hm : Md K J s s') (hK : 107 ∉ K ∧ 126 ∉ K ∧ 127 ∉ K ∧ 128 ∉ K) (hJ : 57 ∉ J) : RV s' x U m := by
  obtain ⟨v1, v2, v3, v4, v5, v6⟩ := hV
  unfold RV
  rw [hm.1 107 hK.1 (by decide), hm.1 126 hK.2.1 (by decide), hm.1 127 hK.2.2.1 (by decide), hm.1 128 hK.2.2.2 (by decide), hm.2.1 57 hJ]
  exact ⟨v1, v2, v3, v4, v5, v6⟩
theorem r_goesHome (hN : 100 ≤ N) (ht : t < 6) (hA : WF A) (hx : x < q_nc A) (hR : RP s t A) (h29 : s.1 85 29 = nI t) (hV : RV s x U m) (hU : ∀ p, U p → p < q_pr A x) (hn : m.2.2.1 < 26) : (q_h (q_wt A) U m = 0 ∧ G_M_goesHome N s (nI x) = some (0, s)) ∨ (q_h (q_wt A) U m ≠ 0 ∧ ∃ s', G_M_goesHome N s (nI x) = some (1, s') ∧ Md [107, 128] [57] s s' ∧ RV s' x U (mgo m (q_h (q_wt A) U m - 1) (q_wt A (q_h (q_wt A) U m - 1) - 1))) := by
  have hx7 : x < 7 := by have := hA.1; unfold WFc at this; omega
  unfold G_M_goesHome
  have key : ∀ fuel h, h ≤ 10 → 10 < fuel + h → (∀ h', h' < h → ¬ hmP (q_wt A) U m.1 h') → ((∀ h', h' < 10 → ¬ hmP (q_wt A) U m.1 h') ∧ G_M_goesHome_2 N (nI x) fuel (nI h) s = some (0, s)) ∨ ∃ h' s', h' < 10 ∧ hmP (q_wt A) U m.1 h' ∧ (∀ j, j < h' → ¬ hmP (q_wt A) U m.1 j) ∧ G_M_goesHome_2 N (nI x) fuel (nI h) s = some (1, s') ∧ Md [107, 128] [57] s s' ∧ RV s' x U (mgo m h' (q_wt A h' - 1)) := by
    intro fuel
    induction fuel with
    | zero => intro h h1 h2; omega
    | succ f ih =>
      intro h h1 h2 h3
      have hst : G_M_goesHome_2 N (nI x) (f + 1) (nI h) s = GB_M_goesHome_2 N (G_M_goesHome_2 N (nI x) f) (nI x) (nI h) s := rfl
      rw [hst]
      unfold GB_M_goesHome_2 G_M_goesHome_70 G_M_goesHome_64 G_M_goesHome_42
      rw [L_10]
      by_cases c : h = 10
      · rw [if_pos (nI_le (by omega) (by omega))]
        exact Or.inl ⟨fun h' hh' => h3 h' (by omega), rfl⟩
      · rw [if_neg (nI_ge (by omega) (by omega)), nI_1]
        have hh : h < 10 := by omega
        have hw : q_wt A h ≤ 6 := hA.2.2.2.2.2.2.2 h hh
        have h125 : s.1 125 (10 * t + h) = cd (q_wt A h) := hR.2.2.2.2.2 h hh
        have next : ¬ hmP (q_wt A) U m.1 h → ((∀ h', h' < 10 → ¬ hmP (q_wt A) U m.1 h') ∧ G_M_goesHome_2 N (nI x) f (nI (h + 1)) s = some (0, s)) ∨ ∃ h' s', h' < 10 ∧ hmP (q_wt A) U m.1 h' ∧ (∀ j, j < h' → ¬ hmP (q_wt A) U m.1 j) ∧ G_M_goesHome_2 N (nI x) f (nI (h + 1)) s = some (1, s') ∧ Md [107, 128] [57] s s' ∧ RV s' x U (mgo m h' (q_wt A h' - 1)) := by
          intro hno
          refine ih (h + 1) (by omega) (by omega) (fun h' hh' => ?_)
          by_cases e : h' = h
          · rw [e]; exact hno
          · exact h3 h' (by omega)
        rcases r_isAstray (N := N) hN ht hx7 hA hR h29 hV hh with ⟨a1, a2⟩ | ⟨a1, a2⟩
        · rw [a1, Option.bind_some]
          dsimp only
          have hw0 := a2.2.1
          obtain ⟨p, hp⟩ : ∃ p, q_wt A h = p + 1 := ⟨q_wt A h - 1, by omega⟩
          rw [if_neg i10, h29, nI_mul, nI_add, rdA_nI (by omega) (by decide), Option.bind_some, h125, hp, cd_s]
          rcases r_isFree (N := N) ht hA hx hR h29 hV hU (show p < 6 by omega) with ⟨b1, b2⟩ | ⟨b1, b2⟩
          · rw [b1, Option.bind_some]
            dsimp only
            obtain ⟨s', g1, g2, g3⟩ := r_goes (N := N) hN hx7 hV hn hh (show p < 6 by omega) b2.2
            rw [if_neg i10, h29, nI_mul, nI_add, rdA_nI (by omega) (by decide), Option.bind_some, h125, hp, cd_s, g1, Option.bind_some]
            have hP : hmP (q_wt A) U m.1 h := ⟨a2, by rw [hp, Nat.add_sub_cancel]; exact b2⟩
            exact Or.inr ⟨h, s', hh, hP, h3, rfl, g2, by rw [hp, Nat.add_sub_cancel]; exact g3⟩
          · rw [b1, Option.bind_some]
            dsimp only
            rw [if_pos rfl]
            exact next (fun z => b2 (by have := z.2; rw [hp, Nat.add_sub_cancel] at this; exact this))
        · rw [a1, Option.bind_some]
          dsimp only
          rw [if_pos rfl]
          exact next (fun z => a2 z.1)
  rcases key N 0 (by omega) (by omega) (fun h' hh' => by omega) with ⟨k1, k2⟩ | ⟨h', s', k1, k2, k3, k4, k5, k6⟩
  · exact Or.inl ⟨q_fp_z k1, k2⟩
  · have e : q_h (q_wt A) U m = h' + 1 := q_fp_eq k1 k2 k3
    rw [e, Nat.add_sub_cancel]
    exact Or.inr ⟨by omega, s', k4, k5, k6⟩
end MVR
