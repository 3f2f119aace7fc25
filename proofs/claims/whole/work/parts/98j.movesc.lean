/-! ===== MOVES: the class ===== -/
def VM (s : mst) (W : Nat → Nat) (U : Nat → Prop) (m : MV) : Prop := (∀ h, h < 10 → m.1 h ≤ 6 ∧ s.1 55 h = cd (m.1 h) ∧ s.1 56 h = cd (W h) ∧ W h ≤ 6) ∧ (∃ M, s.1 54 3 = nI M ∧ M < 2 ^ 10 ∧ ∀ p, M.testBit p = true ↔ U p) ∧ (∃ G, s.1 54 4 = nI G ∧ G < 2 ^ 10 ∧ ∀ h, h < 10 → (G.testBit h = true ↔ m.2.1 h ≠ 0)) ∧ s.1 54 5 = nI m.2.2.1 ∧ ∀ j, j < m.2.2.1 → s.1 57 j = nI (m.2.2.2 j)
theorem bit_test {F p : Nat} (hF : F < 2 ^ 24) (hp : p < 24) : ((nI F >>> (nI p &&& 31)) &&& 1 = 0) ↔ ¬ F.testBit p = true := by
  rw [L_31, nI_shr (by omega) (by omega), L_1, nI_and1]
  have hs := so_tb (w := F) (k := p)
  constructor
  · intro h ht
    have h1 : F / 2 ^ p % 2 = 1 := hs.mpr ht
    rw [h1] at h
    exact absurd h (by decide)
  · intro h
    have h0 : F / 2 ^ p % 2 = 0 := (bit01 F p).resolve_right (fun z => h (hs.mp z))
    rw [h0]
    rfl
section MVC
variable {N : Nat} {s : mst} {W : Nat → Nat} {U : Nat → Prop} {m : MV}
theorem m_free (hN : 100 ≤ N) (hV : VM s W U m) : ∃ F, G_Mover_freePairs N s = some (nI F, s) ∧ F < 2 ^ 24 ∧ ∀ p, F.testBit p = true ↔ fre U m.1 p := by
  obtain ⟨v1, ⟨M, u1, u2, u3⟩, _⟩ := hV
  unfold G_Mover_freePairs
  rw [u1]
  refine Exists.elim (lpE (F := fun f h (x : Int32) => G_Mover_freePairs_7 N f x (nI h) s) (n := 10) (I := fun h x => ∃ F, x = nI F ∧ F < 2 ^ 24 ∧ ∀ p, F.testBit p = true ↔ U p ∧ ∀ h', h' < h → m.1 h' ≠ p + 1) ?_ N 0 (nI M) (Nat.zero_le _) (by omega) ⟨M, rfl, by omega, fun p => by rw [u3]; exact ⟨fun z => ⟨z, fun h' hh' => by omega⟩, fun z => z.1⟩⟩) ?_
  · intro f h x hh ⟨F, x1, x2, x3⟩
    subst x1
    obtain ⟨a1, a2, _⟩ := v1 h hh
    have hst : G_Mover_freePairs_7 N (f + 1) (nI F) (nI h) s = if cd (m.1 h) = -1 then G_Mover_freePairs_7 N f (nI F) (nI (h + 1)) s else G_Mover_freePairs_7 N f (nI F &&& ((1 <<< (cd (m.1 h) &&& 31)) ^^^ (-1))) (nI (h + 1)) s := by
      show GB_Mover_freePairs_7 N (G_Mover_freePairs_7 N f) (nI F) (nI h) s = _
      unfold GB_Mover_freePairs_7 G_Mover_freePairs_35
      rw [L_10, if_neg (nI_ge hh (by omega)), vat_nI hh (by decide), a2, nI_1]
    rw [hst]
    by_cases c : m.1 h = 0
    · rw [if_pos ((cd_n1 (by omega)).mpr c)]
      refine ⟨nI F, ⟨F, rfl, x2, fun p => ?_⟩, rfl⟩
      rw [x3 p]
      constructor
      · intro z
        refine ⟨z.1, fun h' hh' => ?_⟩
        by_cases e : h' = h
        · rw [e, c]; omega
        · exact z.2 h' (by omega)
      · intro z
        exact ⟨z.1, fun h' hh' => z.2 h' (by omega)⟩
    · obtain ⟨q, hq⟩ : ∃ q, m.1 h = q + 1 := ⟨m.1 h - 1, by omega⟩
      rw [if_neg (show ¬ cd (m.1 h) = -1 from fun e => c ((cd_n1 (by omega)).mp e)), hq, cd_s, sh1b (by omega)]
      obtain ⟨v, w1, w2, w3⟩ := andn24 (a := F) (c := 2 ^ q) x2
      rw [w1]
      refine ⟨nI v, ⟨v, rfl, w2, fun p => ?_⟩, rfl⟩
      rw [w3 p, x3 p, Nat.testBit_two_pow]
      constructor
      · intro ⟨z1, z2⟩
        refine ⟨z1.1, fun h' hh' => ?_⟩
        by_cases e : h' = h
        · rw [e, hq]
          intro e2
          exact z2 (by rw [show q = p by omega]; exact decide_eq_true rfl)
        · exact z1.2 h' (by omega)
      · intro z
        refine ⟨⟨z.1, fun h' hh' => z.2 h' (by omega)⟩, fun e => ?_⟩
        have e2 : q = p := of_decide_eq_true e
        exact z.2 h (by omega) (by rw [hq, e2])
  · intro f ⟨x, ⟨F, x1, x2, x3⟩, e⟩
    subst x1
    refine ⟨F, Eq.trans e ?_, x2, x3⟩
    show GB_Mover_freePairs_7 N (G_Mover_freePairs_7 N f) (nI F) (nI 10) s = _
    unfold GB_Mover_freePairs_7 G_Mover_freePairs_41
    rw [L_10, if_pos (nI_le (Nat.le_refl _) (by decide))]
theorem m_astray (hV : VM s W U m) {h : Nat} (hh : h < 10) : (G_Mover_isAstray N s (nI h) = some (1, s) ∧ ast W m.1 h) ∨ (G_Mover_isAstray N s (nI h) = some (0, s) ∧ ¬ ast W m.1 h) := by
  obtain ⟨a1, a2, a3, a4⟩ := hV.1 h hh
  unfold G_Mover_isAstray G_Mover_isAstray_37 G_Mover_isAstray_38 ast
  rw [vat_nI hh (by decide), vat_nI hh (by decide), a2, a3]
  by_cases c2 : m.1 h = 0
  · rw [if_pos ((cd_n1 (by omega)).mpr c2), if_pos (Or.inl rfl)]
    exact Or.inr ⟨rfl, fun z => z.1 c2⟩
  · rw [if_neg (show ¬ cd (m.1 h) = -1 from fun e => c2 ((cd_n1 (by omega)).mp e))]
    by_cases c1 : W h = 0
    · rw [if_pos ((cd_n1 (by omega)).mpr c1), if_pos (Or.inl rfl)]
      exact Or.inr ⟨rfl, fun z => z.2.1 c1⟩
    · rw [if_neg (show ¬ cd (W h) = -1 from fun e => c1 ((cd_n1 (by omega)).mp e))]
      by_cases c3 : m.1 h = W h
      · rw [if_pos (by rw [c3]), if_pos (Or.inl rfl)]
        exact Or.inr ⟨rfl, fun z => z.2.2 c3⟩
      · rw [if_neg (fun e => c3 ((cd_eq (by omega) (by omega)).mp e)), if_pos (Or.inr rfl)]
        exact Or.inl ⟨rfl, c2, c1, c3⟩
theorem m_move (hV : VM s W U m) (hn : m.2.2.1 < 20) {h p : Nat} (hh : h < 10) (hp : p < 6) : ∃ s', G_Mover_move N s (nI h) (nI p) = some s' ∧ Fm (fun q => 54 ≤ q ∧ q ≤ 57) s s' ∧ VM s' W U (mgo m h p) := by
  obtain ⟨v1, ⟨M, u1, u2, u3⟩, ⟨G, g1, g2, g3⟩, v5, v6⟩ := hV
  have e1 : vsI s 57 20 (nI m.2.2.1) (nI (8 * h + p)) = wr1 s 57 m.2.2.1 (nI (8 * h + p)) := by rw [vsI_ws, ws_nI hn (by decide)]
  refine ⟨wr1 (wr1 (wr1 s 57 m.2.2.1 (nI (8 * h + p))) 54 5 (nI (m.2.2.1 + 1))) 55 h (nI p), ?_, Fm_t (Fm_t (Fm_w (by omega)) (Fm_w (by omega))) (Fm_w (by omega)), ?_, ⟨M, ?_, u2, u3⟩, ⟨G, ?_, g2, g3⟩, ?_, ?_⟩
  · unfold G_Mover_move G_Mover_move_39
    rw [v5, L_20, if_neg (nI_ge hn (by decide)), L_8, nI_mul, nI_add, e1, wr1_ne (by decide), v5, nI_1, vsI_ws, ws_nI hh (by decide)]
    rfl
  · intro h' hh'
    obtain ⟨a1, a2, a3, a4⟩ := v1 h' hh'
    show updN m.1 h (p + 1) h' ≤ 6 ∧ _ = cd (updN m.1 h (p + 1) h') ∧ _
    rw [wr1_at]
    refine ⟨?_, ?_, ?_, a4⟩
    · unfold updN
      split <;> omega
    · by_cases c : h' = h
      · rw [if_pos c, c, updN_s, cd_s]
      · rw [if_neg c, updN_n c, wr1_ne (by decide), wr1_ne (by decide)]; exact a2
    · rw [wr1_ne (by decide), wr1_ne (by decide), wr1_ne (by decide)]; exact a3
  · rw [wr1_ne (by decide), wr1_at, if_neg (by decide), wr1_ne (by decide)]; exact u1
  · rw [wr1_ne (by decide), wr1_at, if_neg (by decide), wr1_ne (by decide)]; exact g1
  · rw [wr1_ne (by decide), wr1_at, if_pos rfl]; rfl
  · intro j hj
    have hj' : j < m.2.2.1 + 1 := hj
    rw [wr1_ne (by decide), wr1_ne (by decide), wr1_at]
    show _ = nI (updN m.2.2.2 m.2.2.1 (8 * h + p) j)
    by_cases c : j = m.2.2.1
    · rw [if_pos c, c, updN_s]
    · rw [if_neg c, updN_n c]; exact v6 j (by omega)
theorem m_home (hN : 100 ≤ N) (hV : VM s W U m) (hn : m.2.2.1 < 20) : (q_h W U m = 0 ∧ G_Mover_moveHome N s = some (0, s)) ∨ (q_h W U m ≠ 0 ∧ ∃ s', G_Mover_moveHome N s = some (1, s') ∧ Fm (fun q => 54 ≤ q ∧ q ≤ 57) s s' ∧ VM s' W U (mgo m (q_h W U m - 1) (W (q_h W U m - 1) - 1))) := by
  obtain ⟨F, f1, f2, f3⟩ := m_free hN hV
  unfold G_Mover_moveHome
  rw [f1, Option.bind_some]
  dsimp only
  have key : ∀ fuel h, h ≤ 10 → 10 < fuel + h → (∀ h', h' < h → ¬ hmP W U m.1 h') → ((∀ h', h' < 10 → ¬ hmP W U m.1 h') ∧ G_Mover_moveHome_7 N (nI F) fuel (nI h) s = some (0, s)) ∨ ∃ h' s', h' < 10 ∧ hmP W U m.1 h' ∧ (∀ j, j < h' → ¬ hmP W U m.1 j) ∧ G_Mover_moveHome_7 N (nI F) fuel (nI h) s = some (1, s') ∧ Fm (fun q => 54 ≤ q ∧ q ≤ 57) s s' ∧ VM s' W U (mgo m h' (W h' - 1)) := by
    intro fuel
    induction fuel with
    | zero => intro h h1 h2; omega
    | succ f ih =>
      intro h h1 h2 h3
      have hst : G_Mover_moveHome_7 N (nI F) (f + 1) (nI h) s = GB_Mover_moveHome_7 N (G_Mover_moveHome_7 N (nI F) f) (nI F) (nI h) s := rfl
      rw [hst]
      unfold GB_Mover_moveHome_7 G_Mover_moveHome_52 G_Mover_moveHome_46 G_Mover_moveHome_38
      rw [L_10]
      by_cases c : h = 10
      · rw [if_pos (nI_le (by omega) (by omega))]
        exact Or.inl ⟨fun h' hh' => h3 h' (by omega), rfl⟩
      · have hh : h < 10 := by omega
        obtain ⟨a1, a2, a3, a4⟩ := hV.1 h hh
        rw [if_neg (nI_ge (by omega) (by omega)), nI_1, vat_nI hh (by decide), a3]
        have next : ¬ hmP W U m.1 h → ((∀ h', h' < 10 → ¬ hmP W U m.1 h') ∧ G_Mover_moveHome_7 N (nI F) f (nI (h + 1)) s = some (0, s)) ∨ ∃ h' s', h' < 10 ∧ hmP W U m.1 h' ∧ (∀ j, j < h' → ¬ hmP W U m.1 j) ∧ G_Mover_moveHome_7 N (nI F) f (nI (h + 1)) s = some (1, s') ∧ Fm (fun q => 54 ≤ q ∧ q ≤ 57) s s' ∧ VM s' W U (mgo m h' (W h' - 1)) := by
          intro hno
          refine ih (h + 1) (by omega) (by omega) (fun h' hh' => ?_)
          by_cases e : h' = h
          · rw [e]; exact hno
          · exact h3 h' (by omega)
        rcases m_astray (N := N) hV hh with ⟨b1, b2⟩ | ⟨b1, b2⟩
        · rw [b1, Option.bind_some]
          dsimp only
          have hw0 := b2.2.1
          obtain ⟨p, hp⟩ : ∃ p, W h = p + 1 := ⟨W h - 1, by omega⟩
          rw [if_neg i10, hp, cd_s]
          by_cases d : F.testBit p = true
          · obtain ⟨s', e1, e2, e3⟩ := m_move (N := N) hV hn hh (show p < 6 by omega)
            rw [if_neg (fun e => (bit_test f2 (by omega)).mp e d), e1, Option.bind_some]
            have hP : hmP W U m.1 h := ⟨b2, by rw [hp, Nat.add_sub_cancel]; exact (f3 p).mp d⟩
            exact Or.inr ⟨h, s', hh, hP, h3, rfl, e2, by rw [hp, Nat.add_sub_cancel]; exact e3⟩
          · rw [if_pos ((bit_test f2 (by omega)).mpr d)]
            exact next (fun z => d ((f3 p).mpr (by have := z.2; rw [hp, Nat.add_sub_cancel] at this; exact this)))
        · rw [b1, Option.bind_some]
          dsimp only
          rw [if_pos rfl]
          exact next (fun z => b2 z.1)
  rcases key N 0 (by omega) (by omega) (fun h' hh' => by omega) with ⟨k1, k2⟩ | ⟨h', s', k1, k2, k3, k4, k5, k6⟩
  · exact Or.inl ⟨q_fp_z k1, k2⟩
  · have e : q_h W U m = h' + 1 := q_fp_eq k1 k2 k3
    rw [e, Nat.add_sub_cancel]
    exact Or.inr ⟨by omega, s', k4, k5, k6⟩
end MVC
