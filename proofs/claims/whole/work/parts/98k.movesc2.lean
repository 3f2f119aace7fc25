def minj (m : MV) : Prop := ∀ h h', h < 10 → h' < 10 → m.1 h = m.1 h' → m.1 h ≠ 0 → h = h'
theorem minj_go {m : MV} {h p : Nat} (hi : minj m) (hf : ∀ h', h' < 10 → m.1 h' ≠ p + 1) : minj (mgo m h p) := by
  intro a c ha hc e hne
  have e' : updN m.1 h (p + 1) a = updN m.1 h (p + 1) c := e
  have hne' : updN m.1 h (p + 1) a ≠ 0 := hne
  by_cases d1 : a = h
  · by_cases d2 : c = h
    · omega
    · rw [d1, updN_s, updN_n d2] at e'
      exact absurd e'.symm (hf c hc)
  · by_cases d2 : c = h
    · rw [d2, updN_s, updN_n d1] at e'
      exact absurd e' (hf a ha)
    · rw [updN_n d1, updN_n d2] at e'
      rw [updN_n d1] at hne'
      exact hi a c ha hc e' hne'
theorem minj_stp {W : Nat → Nat} {U : Nat → Prop} {m : MV} (hi : minj m) : minj (mstp W U m) := by
  unfold mstp
  by_cases c : q_h W U m ≠ 0
  · rw [if_pos c]
    rcases q_fp_spec (P := hmP W U m.1) 10 with ⟨h1, _⟩ | ⟨i, h1, h2, h3, h4⟩
    · exact absurd h1 c
    · rw [show q_h W U m = i + 1 from h2, Nat.add_sub_cancel]
      exact minj_go hi h3.2.2
  · rw [if_neg c]
    by_cases d : q_fr6 U m ≠ 0 ∧ q_sd W m ≠ 0
    · rw [if_pos d]
      rcases q_fp_spec (P := fre U m.1) 6 with ⟨h1, _⟩ | ⟨i, h1, h2, h3, h4⟩
      · exact absurd h1 d.1
      · rw [show q_fr6 U m = i + 1 from h2, Nat.add_sub_cancel]
        exact minj_go (m := mgone m (q_sd W m - 1)) hi h3.2
    · rw [if_neg d]; exact hi
theorem minj_run {W : Nat → Nat} {U : Nat → Prop} {m : MV} (hi : minj m) : ∀ k, minj (mrun W U m k) := by
  intro k
  induction k with
  | zero => exact hi
  | succ k ih => exact minj_stp ih
section MVD
variable {N : Nat} {s : mst} {W : Nat → Nat} {U : Nat → Prop} {m : MV}
theorem m_lowest (hN : 100 ≤ N) {F p : Nat} (hF : F < 2 ^ 24) (hp : p < 6) (h1 : F.testBit p = true) (h2 : ∀ j, j < p → ¬ F.testBit j = true) : G_Mover_lowestOf N s (nI F) = some (nI p, s) := by
  unfold G_Mover_lowestOf
  have key : ∀ fuel q, q ≤ p → p < fuel + q → G_Mover_lowestOf_2 N (nI F) fuel (nI q) s = some (nI p, s) := by
    intro fuel
    induction fuel with
    | zero => intro q a b; omega
    | succ f ih =>
      intro q a b
      show GB_Mover_lowestOf_2 N (G_Mover_lowestOf_2 N (nI F) f) (nI F) (nI q) s = _
      unfold GB_Mover_lowestOf_2 G_Mover_lowestOf_16
      rw [L_6, if_neg (nI_ge (by omega) (by omega)), nI_1]
      by_cases c : q = p
      · rw [c, if_neg (fun e => (bit_test hF (by omega)).mp e h1)]
      · rw [if_pos ((bit_test hF (by omega)).mpr (h2 q (by omega)))]
        exact ih (q + 1) (by omega) (by omega)
  exact key N 0 (by omega) (by omega)
theorem m_houseOn (hN : 100 ≤ N) (hV : VM s W U m) (hi : minj m) {q : Nat} (hq : q < 6) : (∃ h, h < 10 ∧ m.1 h = q + 1 ∧ G_Mover_houseOn N s (nI q) = some (nI h, s)) ∨ ((∀ h, h < 10 → m.1 h ≠ q + 1) ∧ G_Mover_houseOn N s (nI q) = some (-1, s)) := by
  unfold G_Mover_houseOn
  have key : ∀ fuel h, h ≤ 10 → 10 < fuel + h → (∀ h', h' < h → m.1 h' ≠ q + 1) → (∃ h', h' < 10 ∧ m.1 h' = q + 1 ∧ G_Mover_houseOn_2 N (nI q) fuel (nI h) s = some (nI h', s)) ∨ ((∀ h', h' < 10 → m.1 h' ≠ q + 1) ∧ G_Mover_houseOn_2 N (nI q) fuel (nI h) s = some (-1, s)) := by
    intro fuel
    induction fuel with
    | zero => intro h a b; omega
    | succ f ih =>
      intro h a b c
      have hst : G_Mover_houseOn_2 N (nI q) (f + 1) (nI h) s = GB_Mover_houseOn_2 N (G_Mover_houseOn_2 N (nI q) f) (nI q) (nI h) s := rfl
      rw [hst]
      unfold GB_Mover_houseOn_2 G_Mover_houseOn_33 G_Mover_houseOn_27 G_Mover_houseOn_25
      rw [L_10]
      by_cases d : h = 10
      · rw [if_pos (nI_le (by omega) (by omega))]
        exact Or.inr ⟨fun h' hh' => c h' (by omega), rfl⟩
      · obtain ⟨a1, a2, _⟩ := hV.1 h (by omega)
        rw [if_neg (nI_ge (by omega) (by omega)), if_neg (nI_n1 (by omega)), vat_nI (by omega) (by decide), a2, nI_1]
        by_cases e : m.1 h = q + 1
        · rw [if_pos (by rw [e, cd_s])]
          exact Or.inl ⟨h, by omega, e, rfl⟩
        · rw [if_neg (fun z => e ((cd_nI (by omega) (by omega)).mp z))]
          refine ih (h + 1) (by omega) (by omega) (fun h' hh' => ?_)
          by_cases z : h' = h
          · rw [z]; exact e
          · exact c h' (by omega)
  exact key N 0 (by omega) (by omega) (fun h' hh' => by omega)
theorem VM_gone (hV : VM s W U m) {h : Nat} (hh : h < 10) : VM (wrI s 54 4 ((s.1 54 4) ||| (1 <<< (nI h &&& 31)))) W U (mgone m h) := by
  obtain ⟨v1, ⟨M, u1, u2, u3⟩, ⟨G, g1, g2, g3⟩, v5, v6⟩ := hV
  have e : wrI s 54 4 ((s.1 54 4) ||| (1 <<< (nI h &&& 31))) = wr1 s 54 4 (nI (G ||| 2 ^ h)) := by
    rw [g1, sh1b (by omega), nI_or]
    rfl
  rw [e]
  refine ⟨?_, ⟨M, ?_, u2, u3⟩, ⟨G ||| 2 ^ h, ?_, lt_or2 g2 hh, fun h' hh' => ?_⟩, ?_, ?_⟩
  · rw [wr1_ne (by decide), wr1_ne (by decide)]; exact v1
  · rw [wr1_at, if_neg (by decide)]; exact u1
  · rw [wr1_at, if_pos rfl]
  · rw [tb_or2, g3 h' hh']
    show _ ↔ updN m.2.1 h 1 h' ≠ 0
    by_cases c : h' = h
    · rw [c, updN_s]; exact ⟨fun _ => by omega, fun _ => Or.inr rfl⟩
    · rw [updN_n c]; exact ⟨fun z => z.resolve_right c, Or.inl⟩
  · rw [wr1_at, if_neg (by decide)]; exact v5
  · rw [wr1_ne (by decide)]; exact v6
theorem m_aside (hN : 100 ≤ N) (hV : VM s W U m) (hi : minj m) (hU : ∀ p, U p → p < 6) (hn : m.2.2.1 < 20) : ((q_fr6 U m = 0 ∨ q_sd W m = 0) ∧ G_Mover_moveAside N s = some (0, s)) ∨ ((q_fr6 U m ≠ 0 ∧ q_sd W m ≠ 0) ∧ ∃ s', G_Mover_moveAside N s = some (1, s') ∧ Fm (fun q => 54 ≤ q ∧ q ≤ 57) s s' ∧ VM s' W U (mgo (mgone m (q_sd W m - 1)) (q_sd W m - 1) (q_fr6 U m - 1))) := by
  obtain ⟨F, f1, f2, f3⟩ := m_free hN hV
  unfold G_Mover_moveAside
  rw [f1, Option.bind_some]
  dsimp only
  rcases q_fp_spec (P := fre U m.1) 6 with ⟨z1, z2⟩ | ⟨p, z1, z2, z3, z4⟩
  · have hF : F = 0 := by
      apply Nat.eq_of_testBit_eq
      intro j
      rw [Nat.zero_testBit]
      cases hb : F.testBit j with
      | false => rfl
      | true =>
        have := (f3 j).mp hb
        exact absurd this (z2 j (hU j this.1))
    refine Or.inl ⟨Or.inl z1, ?_⟩
    obtain ⟨M, rfl⟩ : ∃ M, N = M + 1 := ⟨N - 1, by omega⟩
    show GB_Mover_moveAside_7 (M + 1) (G_Mover_moveAside_7 (M + 1) (nI F) M) (nI F) 0 s = _
    unfold GB_Mover_moveAside_7 G_Mover_moveAside_94
    rw [if_neg (show ¬ (10 : Int32) ≤ 0 by decide), if_pos (by rw [hF]; rfl)]
  · have hFb : F.testBit p = true := (f3 p).mpr z3
    have hF0 : F ≠ 0 := fun e => by rw [e, Nat.zero_testBit] at hFb; exact absurd hFb (by decide)
    have e6 : q_fr6 U m = p + 1 := z2
    have hlow : ∀ s' : mst, G_Mover_lowestOf N s' (nI F) = some (nI p, s') := fun s' => m_lowest hN f2 z1 hFb (fun j hj h => z4 j hj ((f3 j).mp h))
    have key : ∀ fuel h, h ≤ 10 → 10 < fuel + h → (∀ h', h' < h → ¬ asP W m.1 m.2.1 h') → ((∀ h', h' < 10 → ¬ asP W m.1 m.2.1 h') ∧ G_Mover_moveAside_7 N (nI F) fuel (nI h) s = some (0, s)) ∨ ∃ h' s', h' < 10 ∧ asP W m.1 m.2.1 h' ∧ (∀ j, j < h' → ¬ asP W m.1 m.2.1 j) ∧ G_Mover_moveAside_7 N (nI F) fuel (nI h) s = some (1, s') ∧ Fm (fun q => 54 ≤ q ∧ q ≤ 57) s s' ∧ VM s' W U (mgo (mgone m h') h' p) := by
      intro fuel
      induction fuel with
      | zero => intro h h1 h2; omega
      | succ f ih =>
        intro h h1 h2 h3
        have hst : G_Mover_moveAside_7 N (nI F) (f + 1) (nI h) s = GB_Mover_moveAside_7 N (G_Mover_moveAside_7 N (nI F) f) (nI F) (nI h) s := rfl
        rw [hst]
        unfold GB_Mover_moveAside_7 G_Mover_moveAside_94 G_Mover_moveAside_33 G_Mover_moveAside_88
        rw [L_10]
        by_cases c : h = 10
        · rw [if_pos (nI_le (by omega) (by omega))]
          exact Or.inl ⟨fun h' hh' => h3 h' (by omega), rfl⟩
        · have hh : h < 10 := by omega
          obtain ⟨a1, a2, a3, a4⟩ := hV.1 h hh
          obtain ⟨G, g1, g2, g3⟩ := hV.2.2.1
          rw [if_neg (nI_ge (by omega) (by omega)), if_neg (nI_ne0 (by omega) (by omega)), g1, nI_1]
          have next : ¬ asP W m.1 m.2.1 h → ((∀ h', h' < 10 → ¬ asP W m.1 m.2.1 h') ∧ G_Mover_moveAside_7 N (nI F) f (nI (h + 1)) s = some (0, s)) ∨ ∃ h' s', h' < 10 ∧ asP W m.1 m.2.1 h' ∧ (∀ j, j < h' → ¬ asP W m.1 m.2.1 j) ∧ G_Mover_moveAside_7 N (nI F) f (nI (h + 1)) s = some (1, s') ∧ Fm (fun q => 54 ≤ q ∧ q ≤ 57) s s' ∧ VM s' W U (mgo (mgone m h') h' p) := by
            intro hno
            refine ih (h + 1) (by omega) (by omega) (fun h' hh' => ?_)
            by_cases e : h' = h
            · rw [e]; exact hno
            · exact h3 h' (by omega)
          by_cases cg : m.2.1 h = 0
          · rw [if_pos ((bit_test (by omega) (by omega)).mpr (fun z => (g3 h hh).mp z cg)), if_pos rfl]
            rcases m_astray (N := N) hV hh with ⟨b1, b2⟩ | ⟨b1, b2⟩
            · rw [b1, Option.bind_some]
              dsimp only
              have hw0 := b2.2.1
              obtain ⟨q, hq⟩ : ∃ q, W h = q + 1 := ⟨W h - 1, by omega⟩
              rw [if_neg i10, vat_nI hh (by decide), a3, hq, cd_s]
              rcases m_houseOn (N := N) hN hV hi (show q < 6 by omega) with ⟨k, k1, k2, k3⟩ | ⟨k1, k2⟩
              · rw [k3, Option.bind_some]
                dsimp only
                rcases m_astray (N := N) hV k1 with ⟨d1, d2⟩ | ⟨d1, d2⟩
                · rw [d1, Option.bind_some]
                  dsimp only
                  rw [if_neg i10]
                  obtain ⟨s', e1, e2, e3⟩ := m_move (N := N) (VM_gone hV hh) hn hh z1
                  unfold G_Mover_moveAside_65
                  rw [hlow, Option.bind_some]
                  dsimp only
                  rw [e1, Option.bind_some]
                  exact Or.inr ⟨h, s', hh, ⟨b2, cg, k, k1, by rw [k2, hq], d2⟩, h3, rfl, Fm_t (Fm_w (by omega)) e2, e3⟩
                · rw [d1, Option.bind_some]
                  dsimp only
                  rw [if_pos rfl]
                  exact next (fun z => by
                    obtain ⟨_, _, h', y1, y2, y3⟩ := z
                    have : h' = k := hi h' k y1 k1 (by rw [y2, hq, k2]) (by rw [y2, hq]; omega)
                    rw [this] at y3
                    exact d2 y3)
              · rw [k2, Option.bind_some]
                dsimp only
                have hn1 : G_Mover_isAstray N s (-1) = some (0, s) := by
                  unfold G_Mover_isAstray G_Mover_isAstray_37 G_Mover_isAstray_38
                  rw [vat_n1, if_pos rfl, if_pos (Or.inl rfl)]
                rw [hn1, Option.bind_some]
                dsimp only
                rw [if_pos rfl]
                exact next (fun z => by
                  obtain ⟨_, _, h', y1, y2, y3⟩ := z
                  exact k1 h' y1 (by rw [y2, hq]))
            · rw [b1, Option.bind_some]
              dsimp only
              rw [if_pos rfl]
              exact next (fun z => b2 z.1)
          · rw [if_neg (fun e => (bit_test (by omega) (by omega)).mp e ((g3 h hh).mpr cg)), if_neg i10]
            exact next (fun z => cg z.2.1)
    rw [e6, Nat.add_sub_cancel, L_0]
    rcases key N 0 (by omega) (by omega) (fun h' hh' => by omega) with ⟨k1, k2⟩ | ⟨h', s', k1, k2, k3, k4, k5, k6⟩
    · exact Or.inl ⟨Or.inr (q_fp_z k1), k2⟩
    · have e : q_sd W m = h' + 1 := q_fp_eq k1 k2 k3
      rw [e, Nat.add_sub_cancel]
      exact Or.inr ⟨⟨by omega, by omega⟩, s', k4, k5, k6⟩
end MVD
