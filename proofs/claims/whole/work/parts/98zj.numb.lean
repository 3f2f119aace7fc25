/-! ===== numbers on both sides ===== -/
section CNM
variable {N : Nat} {s : mst} {b : Nat → Nat} {L i f v j : Nat} {p0 p1 p2 p3 p4 x : Int32} {ok : Nat → Prop}
theorem g_fail_y (h : s.1 3 2 = -1) : G_Reader_fail N s x = some (wr1 s 3 2 x) := by
  unfold G_Reader_fail G_Reader_fail_13
  rw [if_pos h]
  rfl
theorem g_fail_n (h : ¬ s.1 3 2 = -1) : G_Reader_fail N s x = some s := by
  unfold G_Reader_fail G_Reader_fail_13
  rw [if_neg h]
theorem g_109w (h : ¬ s.1 3 2 = -1) : G_Reader_number_109 N p0 p1 x s = some (x, s) := by
  unfold G_Reader_number_109 G_Reader_number_119 G_Reader_number_129
  rw [g_fail_n h, Option.bind_some]
  split
  · rfl
  · split <;> rfl
theorem g_41w (hc : CTX s b L) (hi : i ≤ L) (ha : s.1 3 1 = nI i) (h : ¬ s.1 3 2 = -1) : ∃ x k, G_Reader_number_41 N p0 p1 s = some (x, atS s k) := by
  have hL := hc.1.1
  unfold G_Reader_number_41
  rw [ha]
  rcases g_digit (N := N) hc (show i ≤ 400 by omega) with ⟨d, e⟩ | ⟨d, e⟩
  · have hb := hc.1.2.1 i
    unfold dg at d
    rw [e, Option.bind_some]
    dsimp only
    rw [if_neg (nI_n1 (by omega)), ha, nI_1]
    have e1 : wrI s 3 1 (nI (i + 1)) = atS s (i + 1) := rfl
    rw [e1, atS_2]
    have h1 : ¬ (atS s (i + 1)).1 3 2 = -1 := by rw [atS_j (by decide)]; exact h
    rcases g_digit (N := N) (atS_c hc (i := i + 1)) (show i + 1 ≤ 400 by omega) with ⟨d2, e2⟩ | ⟨d2, e2⟩
    · have hb2 := hc.1.2.1 (i + 1)
      rw [e2, Option.bind_some]
      dsimp only
      rw [if_neg (nI_n1 (by omega)), atS_2, nI_1]
      have e3 : wrI (atS s (i + 1)) 3 1 (nI (i + 1 + 1)) = atS s (i + 1 + 1) := atS_a
      rw [e3, g_109w (by rw [atS_j (by decide)]; exact h)]
      exact ⟨_, _, rfl⟩
    · rw [e2, Option.bind_some]
      dsimp only
      rw [if_pos rfl, g_109w h1]
      exact ⟨_, _, rfl⟩
  · rw [e, Option.bind_some]
    dsimp only
    rw [if_pos rfl, g_fail_n h, Option.bind_some]
    exact ⟨_, i, by rw [atS_s ha]⟩
/-- the class's number, as long as nothing was wrong -/
theorem c_num_f (hN : 1000 ≤ N) (hc : CTX s b L) (hi : i ≤ L) (ha : s.1 3 1 = nI i) (h : s.1 3 2 = -1) (e : nmb b i = .inl f) : ∃ x s', G_Reader_number N s p0 p1 = some (x, s') ∧ s'.1 3 2 = nI f ∧ s'.1 3 0 = s.1 3 0 ∧ ∀ k, k ≠ 3 → s'.1 k = s.1 k := by
  have hL := hc.1.1
  unfold G_Reader_number
  rw [if_pos h, ha, g_byte hc (by omega), Option.bind_some]
  dsimp only
  rcases nmb_cases b i with ⟨y1, y⟩ | ⟨y1, y2, y⟩ | ⟨y1, y2, y3, y⟩ | ⟨y1, y2, y3, y⟩
  · have ef := Sum.inl.inj (y.symm.trans e)
    subst ef
    rw [if_neg (fun z => y1 ((cd_32 hc.1).mp z)), g_fail_y h, Option.bind_some, ha]
    have hc' : CTX (wr1 s 3 2 (nI i)) b L := by
      unfold CTX at hc ⊢
      rw [wr1_ne (by decide), wr1_ne (by decide)]
      exact hc
    have hw : (wr1 s 3 2 (nI i)).1 3 2 = nI i := by rw [wr1_at, if_pos rfl]
    obtain ⟨x, k, e1⟩ := g_41w (N := N) (p0 := p0) (p1 := p1) hc' hi (by rw [wr1_at, if_neg (by decide)]; exact ha) (by rw [hw]; exact nI_n1 (by omega))
    refine ⟨x, _, e1, by rw [atS_j (by decide)]; exact hw, by rw [atS_j (by decide), wr1_at, if_neg (by decide)], fun k hk => by rw [atS_k hk, wr1_ne hk]⟩
  · have ef := Sum.inl.inj (y.symm.trans e)
    subst ef
    rw [if_pos ((cd_32 hc.1).mpr y1), g_skip hN hc hi ha, Option.bind_some]
    have hle := sk_le hc.1 hi
    unfold G_Reader_number_41
    rw [atS_2]
    rcases g_digit (N := N) (atS_c hc (i := sk b i)) (show sk b i ≤ 400 by omega) with ⟨d, e⟩ | ⟨d, e⟩
    · exact absurd d y2
    · rw [e, Option.bind_some]
      dsimp only
      rw [if_pos rfl, g_fail_y (by rw [atS_j (by decide)]; exact h), Option.bind_some, atS_2]
      exact ⟨_, _, rfl, by rw [wr1_at, if_pos rfl], by rw [wr1_at, if_neg (by decide), atS_j (by decide)], fun k hk => by rw [wr1_ne hk, atS_k hk]⟩
  · rw [y] at e; cases e
  · rw [y] at e; cases e
theorem c_num_g (hN : 1000 ≤ N) (hc : CTX s b L) (hi : i ≤ L) (ha : s.1 3 1 = nI i) (h : s.1 3 2 = -1) (e : nmb b i = .inr (v, j)) : (¬ nI v < p0 → nI v ≤ p1 → G_Reader_number N s p0 p1 = some (nI v, atS s j)) ∧ ((nI v < p0 ∨ ¬ nI v ≤ p1) → G_Reader_number N s p0 p1 = some (nI v, wr1 (atS s j) 3 2 (nI (j - 1)))) := by
  have hL := hc.1.1
  have hb := nmb_b hc.1 hi e
  have key : G_Reader_number N s p0 p1 = G_Reader_number_109 N p0 p1 (nI v) (atS s j) := by
    unfold G_Reader_number
    rw [if_pos h, ha, g_byte hc (by omega), Option.bind_some]
    dsimp only
    rcases nmb_cases b i with ⟨y1, y⟩ | ⟨y1, y2, y⟩ | ⟨y1, y2, y3, y⟩ | ⟨y1, y2, y3, y⟩
    · rw [y] at e; cases e
    · rw [y] at e; cases e
    · rw [y] at e
      cases e
      rw [if_pos ((cd_32 hc.1).mpr y1), g_skip hN hc hi ha, Option.bind_some]
      unfold G_Reader_number_41
      rw [atS_2]
      rcases g_digit (N := N) (atS_c hc (i := sk b i)) (show sk b i ≤ 400 by omega) with ⟨d, e⟩ | ⟨d, e⟩
      · have hb := hc.1.2.1 (sk b i)
        rw [e, Option.bind_some]
        dsimp only
        rw [if_neg (nI_n1 (by omega)), atS_2, nI_1]
        have e1 : wrI (atS s (sk b i)) 3 1 (nI (sk b i + 1)) = atS s (sk b i + 1) := atS_a
        rw [e1, atS_2]
        rcases g_digit (N := N) (atS_c hc (i := sk b i + 1)) (show sk b i + 1 ≤ 400 by omega) with ⟨d2, e2⟩ | ⟨d2, e2⟩
        · exact absurd d2 y3
        · rw [e2, Option.bind_some]
          dsimp only
          rw [if_pos rfl]
      · exact absurd y2 d
    · rw [y] at e
      cases e
      rw [if_pos ((cd_32 hc.1).mpr y1), g_skip hN hc hi ha, Option.bind_some]
      unfold G_Reader_number_41
      rw [atS_2]
      rcases g_digit (N := N) (atS_c hc (i := sk b i)) (show sk b i ≤ 400 by omega) with ⟨d, e⟩ | ⟨d, e⟩
      · have hb1 := hc.1.2.1 (sk b i)
        have hb2 := hc.1.2.1 (sk b i + 1)
        rw [e, Option.bind_some]
        dsimp only
        rw [if_neg (nI_n1 (by omega)), atS_2, nI_1]
        have e1 : wrI (atS s (sk b i)) 3 1 (nI (sk b i + 1)) = atS s (sk b i + 1) := atS_a
        rw [e1, atS_2]
        rcases g_digit (N := N) (atS_c hc (i := sk b i + 1)) (show sk b i + 1 ≤ 400 by omega) with ⟨d2, e2⟩ | ⟨d2, e2⟩
        · rw [e2, Option.bind_some]
          dsimp only
          rw [if_neg (nI_n1 (by omega)), atS_2, nI_1, L_10, nI_mul, nI_add]
          have e3 : wrI (atS s (sk b i + 1)) 3 1 (nI (sk b i + 1 + 1)) = atS s (sk b i + 1 + 1) := atS_a
          rw [e3]
        · exact absurd y3 d2
      · exact absurd y2 d
  have e4 : (atS s j).1 3 1 - 1 = nI (j - 1) := by
    rw [atS_2]
    have := nI_pred (j - 1)
    rw [show j - 1 + 1 = j by omega] at this
    exact this
  refine ⟨fun h1 h2 => ?_, fun h1 => ?_⟩
  · rw [key]
    unfold G_Reader_number_109 G_Reader_number_129
    rw [if_neg h1, if_pos h2]
  · rw [key]
    unfold G_Reader_number_109 G_Reader_number_119 G_Reader_number_129
    rw [e4, g_fail_y (by rw [atS_j (by decide)]; exact h), Option.bind_some]
    rcases h1 with h1 | h1
    · rw [if_pos h1]
    · rw [if_neg h1, ite_self]
theorem c_num_w (h : ¬ s.1 3 2 = -1) : G_Reader_number N s p0 p1 = some (-1, s) := by
  unfold G_Reader_number
  rw [if_neg h]
/-! the reference -/
theorem r_here (h : RTX s b L) (hi : i ≤ L) (h3 : s.1 85 3 = nI i) : G_M_here N s = some (cd (b i), s) := by
  obtain ⟨h1, h2, h4⟩ := h
  have hL := h1.1
  unfold G_M_here G_M_here_28
  rw [h2, h3]
  by_cases c : i < L
  · have hb : b i ≠ 0 := fun e => by have := (h1.2.2 i).mp e; omega
    rw [if_neg (nI_ge c (by omega)), rdA_nI (by omega) (by decide), Option.bind_some, h4 i c]
    obtain ⟨v, hv⟩ : ∃ v, b i = v + 1 := ⟨b i - 1, by omega⟩
    rw [hv, cd_s, Nat.add_sub_cancel]
  · rw [if_pos (nI_le (by omega) (by omega)), (h1.2.2 i).mpr (by omega), cd_0]
theorem RTX_md {s' : mst} {K J : List Nat} (h : RTX s b L) (hm : Md K J s s') (hK : 86 ∉ K) (hJ : 2 ∉ J) : RTX s' b L := by
  unfold RTX at h ⊢
  rw [hm.1 86 hK (by decide), hm.2.1 2 hJ]
  exact h
theorem r_look (hN : 1000 ≤ N) (h : RTX s b L) (hi : i ≤ L) (h3 : s.1 85 3 = nI i) : ∃ s', G_M_look N s = some (cd (b (sk b i)), s') ∧ Md [] [3] s s' ∧ s'.1 85 3 = nI (sk b i) := by
  have hT := h.1
  have hL := hT.1
  have hS := sk_SK (i := i) hT
  have hle := sk_le hT hi
  unfold G_M_look
  have key : ∀ n f m s1, n = sk b i - m → n < f → i ≤ m → m ≤ sk b i → Md [] [3] s s1 → s1.1 85 3 = nI m → ∃ s', G_M_look_0 N f s1 = some (cd (b (sk b i)), s') ∧ Md [] [3] s s' ∧ s'.1 85 3 = nI (sk b i) := by
    intro n
    induction n with
    | zero =>
      intro f m s1 h1 h2 h3 h4 h5 h6
      obtain ⟨f, rfl⟩ : ∃ g, f = g + 1 := ⟨f - 1, by omega⟩
      have em : m = sk b i := by omega
      subst em
      refine ⟨s1, ?_, h5, h6⟩
      have hh := r_here (N := N) (RTX_md h h5 (by decide) (by decide)) hle h6
      show GB_M_look_0 N (G_M_look_0 N f) s1 = _
      unfold GB_M_look_0 G_M_look_22
      rw [hh, Option.bind_some]
      dsimp only
      rw [if_neg (fun e => hS.2.2 ((cd_32 hT).mp e)), hh, Option.bind_some]
    | succ n ih =>
      intro f m s1 h1 h2 h3 h4 h5 h6
      obtain ⟨f, rfl⟩ : ∃ g, f = g + 1 := ⟨f - 1, by omega⟩
      have hb := hS.2.1 m h3 (by omega)
      have hh := r_here (N := N) (RTX_md h h5 (by decide) (by decide)) (show m ≤ L by omega) h6
      obtain ⟨s', g1, g2, g3⟩ := ih f (m + 1) (wrI s1 85 3 (nI (m + 1))) (by omega) (by omega) (by omega) (by omega) (Md_t h5 (Md_f (by decide))) (by rw [wrI_1, wr1_at, if_pos rfl])
      refine ⟨s', ?_, g2, g3⟩
      show GB_M_look_0 N (G_M_look_0 N f) s1 = _
      unfold GB_M_look_0
      rw [hh, Option.bind_some]
      dsimp only
      rw [if_pos ((cd_32 hT).mpr hb), h6, nI_1]
      exact g1
  exact key (sk b i - i) N i s rfl (by omega) (Nat.le_refl _) hS.1 Md_r h3
theorem r_isDigit (h : RTX s b L) (hi : i ≤ L) (h3 : s.1 85 3 = nI i) : (dg (b i) ∧ G_M_isDigit N s = some (1, s)) ∨ (¬ dg (b i) ∧ G_M_isDigit N s = some (0, s)) := by
  have hb := h.1.2.1 i
  have hh := r_here (N := N) h hi h3
  unfold G_M_isDigit G_M_isDigit_22 G_M_isDigit_23
  rw [hh, Option.bind_some]
  dsimp only
  rw [hh, Option.bind_some]
  dsimp only
  rw [if_pos (Or.inl rfl), if_pos (Or.inr rfl)]
  by_cases c0 : b i = 0
  · right
    refine ⟨by unfold dg; omega, ?_⟩
    rw [c0, cd_0, if_pos (by decide)]
  · obtain ⟨v, hv⟩ : ∃ v, b i = v + 1 := ⟨b i - 1, by omega⟩
    rw [hv, cd_s, L_48, L_57]
    by_cases c1 : v < 48
    · right
      refine ⟨by unfold dg; omega, by rw [if_pos (nI_lt c1 (by decide))]⟩
    · rw [if_neg (nI_nlt (by omega) (by omega))]
      by_cases c2 : 57 < v
      · right
        refine ⟨by unfold dg; omega, by rw [if_pos (nI_lt c2 (by omega))]⟩
      · left
        exact ⟨by unfold dg; omega, by rw [if_neg (nI_nlt (by omega) (by decide))]⟩
theorem r_fails (h4 : s.1 85 4 = -1) : G_M_fails N s x = some (0, wr1 s 85 4 x) := by
  unfold G_M_fails G_M_fails_13
  rw [if_pos h4]
  rfl
theorem r_174 (h : RTX s b L) (hi : i ≤ L) (h3 : s.1 85 3 = nI i) (h4 : s.1 85 4 = -1) : (dg (b i) ∧ G_M_number_174 N s = some (0, wr1 s 85 4 (nI i))) ∨ (¬ dg (b i) ∧ G_M_number_174 N s = some (1, s)) := by
  unfold G_M_number_174 G_M_number_192 G_M_number_197
  rcases r_isDigit (N := N) h hi h3 with ⟨d, e⟩ | ⟨d, e⟩
  · left
    refine ⟨d, ?_⟩
    rw [e, Option.bind_some]
    dsimp only
    rw [if_neg i10, h3, r_fails h4, Option.bind_some]
    dsimp only
    rw [if_pos rfl, if_pos (Or.inl rfl)]
  · right
    refine ⟨d, ?_⟩
    rw [e, Option.bind_some]
    dsimp only
    rw [if_pos rfl, if_pos (Or.inr rfl)]
theorem r_163 (h3 : s.1 85 3 = nI i) (hi : 1 ≤ i) (h4 : s.1 85 4 = -1) : G_M_number_163 N s = some (0, wr1 s 85 4 (nI (i - 1))) := by
  have e : nI i - 1 = nI (i - 1) := by
    have := nI_pred (i - 1)
    rw [show i - 1 + 1 = i by omega] at this
    exact this
  unfold G_M_number_163
  rw [h3, e, r_fails h4, Option.bind_some]
  dsimp only
  rw [if_pos (Or.inl rfl)]
theorem r_num (hN : 1000 ≤ N) (h : RTX s b L) (hi : i ≤ L) (h3 : s.1 85 3 = nI i) (h4 : s.1 85 4 = -1) (H : ∀ s' v, v < 100 → Md [] [3, 4, 5] s s' → s'.1 85 5 = nI v → (ok v ∧ G_M_number_96 N p0 p1 p2 p3 p4 s' = G_M_number_174 N s') ∨ (¬ ok v ∧ G_M_number_96 N p0 p1 p2 p3 p4 s' = G_M_number_163 N s')) : (∀ f, nmR b i ok = .inl f → ∃ s', G_M_number N s p0 p1 p2 p3 p4 = some (0, s') ∧ Md [] [3, 4, 5] s s' ∧ s'.1 85 4 = nI f) ∧ (∀ v j, nmR b i ok = .inr (v, j) → ∃ s', G_M_number N s p0 p1 p2 p3 p4 = some (1, s') ∧ Md [] [3, 4, 5] s s' ∧ s'.1 85 3 = nI j ∧ s'.1 85 4 = -1 ∧ s'.1 85 5 = nI v) := by
  have hT := h.1
  have hL := hT.1
  -- behind the digits
  have tail : ∀ s1 v j, nmb b i = .inr (v, j) → Md [] [3, 4, 5] s s1 → s1.1 85 3 = nI j → s1.1 85 4 = -1 → s1.1 85 5 = nI v → G_M_number N s p0 p1 p2 p3 p4 = G_M_number_96 N p0 p1 p2 p3 p4 s1 → (∀ f, nmR b i ok = .inl f → ∃ s', G_M_number N s p0 p1 p2 p3 p4 = some (0, s') ∧ Md [] [3, 4, 5] s s' ∧ s'.1 85 4 = nI f) ∧ (∀ v j, nmR b i ok = .inr (v, j) → ∃ s', G_M_number N s p0 p1 p2 p3 p4 = some (1, s') ∧ Md [] [3, 4, 5] s s' ∧ s'.1 85 3 = nI j ∧ s'.1 85 4 = -1 ∧ s'.1 85 5 = nI v) := by
    intro s1 v j en m1 a3 a4 a5 eG
    have hb := nmb_b hT hi en
    have hR := RTX_md h m1 (by decide) (by decide)
    rw [eG]
    rcases H s1 v hb.1 m1 a5 with ⟨o, e⟩ | ⟨o, e⟩
    · rw [e]
      rcases r_174 (N := N) hR hb.2.2 a3 a4 with ⟨d, e2⟩ | ⟨d, e2⟩
      · have er := nmR_3 en o d
        refine ⟨fun f ef => ?_, fun v' j' ef => ?_⟩
        · rw [er] at ef
          cases ef
          exact ⟨_, e2, Md_t m1 (Md_f (by decide)), by rw [wr1_at, if_pos rfl]⟩
        · rw [er] at ef; cases ef
      · have er := nmR_g en o d
        refine ⟨fun f ef => ?_, fun v' j' ef => ?_⟩
        · rw [er] at ef; cases ef
        · rw [er] at ef
          cases ef
          exact ⟨_, e2, m1, a3, a4, a5⟩
    · have er := nmR_n en o
      rw [e, r_163 a3 (by omega) a4]
      refine ⟨fun f ef => ?_, fun v' j' ef => ?_⟩
      · rw [er] at ef
        cases ef
        exact ⟨_, rfl, Md_t m1 (Md_f (by decide)), by rw [wr1_at, if_pos rfl]⟩
      · rw [er] at ef; cases ef
  have hh := r_here (N := N) h hi h3
  rcases nmb_cases b i with ⟨y1, y⟩ | ⟨y1, y2, y⟩ | hnum
  · have er := nmR_l (ok := ok) y
    refine ⟨fun f ef => ?_, fun v' j' ef => ?_⟩
    · rw [er] at ef
      cases ef
      refine ⟨wr1 s 85 4 (nI i), ?_, Md_f (by decide), by rw [wr1_at, if_pos rfl]⟩
      unfold G_M_number
      rw [hh, Option.bind_some]
      dsimp only
      rw [if_neg (fun z => y1 ((cd_32 hT).mp z)), h3, r_fails h4, Option.bind_some]
      dsimp only
      rw [if_pos (Or.inl rfl)]
    · rw [er] at ef; cases ef
  · have er := nmR_l (ok := ok) y
    obtain ⟨s1, g1, g2, g3⟩ := r_look (N := N) hN h hi h3
    have hle := sk_le hT hi
    have hR := RTX_md h g2 (by decide) (by decide)
    have a4 : s1.1 85 4 = -1 := by rw [g2.2.1 4 (by decide)]; exact h4
    refine ⟨fun f ef => ?_, fun v' j' ef => ?_⟩
    · rw [er] at ef
      cases ef
      refine ⟨wr1 s1 85 4 (nI (sk b i)), ?_, Md_t (Md_m g2 (by decide) (by decide)) (Md_f (by decide)), by rw [wr1_at, if_pos rfl]⟩
      unfold G_M_number
      rw [hh, Option.bind_some]
      dsimp only
      rw [if_pos ((cd_32 hT).mpr y1), g1, Option.bind_some]
      dsimp only
      rcases r_isDigit (N := N) hR hle g3 with ⟨d, e⟩ | ⟨d, e⟩
      · exact absurd d y2
      · rw [e, Option.bind_some]
        dsimp only
        rw [if_pos rfl, g3, r_fails a4, Option.bind_some]
        dsimp only
        rw [if_pos (Or.inl rfl)]
    · rw [er] at ef; cases ef
  · obtain ⟨s1, g1, g2, g3⟩ := r_look (N := N) hN h hi h3
    have hle := sk_le hT hi
    have hR := RTX_md h g2 (by decide) (by decide)
    have y1 : b i = 33 := by rcases hnum with ⟨z, _⟩ | ⟨z, _⟩ <;> exact z
    have y2 : dg (b (sk b i)) := by rcases hnum with ⟨_, z, _⟩ | ⟨_, z, _⟩ <;> exact z
    have hlt : ∀ m, dg (b m) → m < L := by
      intro m hm
      by_cases c : m < L
      · exact c
      · have := (hT.2.2 m).mpr (by omega)
        unfold dg at hm
        omega
    have l1 := hlt _ y2
    have hdv : cd (b (sk b i)) - 48 = nI (b (sk b i) - 49) := by
      unfold dg at y2
      obtain ⟨v, hv⟩ : ∃ v, b (sk b i) = v + 1 := ⟨b (sk b i) - 1, by omega⟩
      rw [hv, cd_s, L_48, pk_sub (by omega), show v + 1 - 49 = v - 48 by omega]
    have hh1 := r_here (N := N) hR hle g3
    generalize hs2 : wrI (wrI s1 85 5 (nI (b (sk b i) - 49))) 85 3 (nI (sk b i + 1)) = s2
    have m2 : Md [] [3, 4, 5] s s2 := by
      rw [← hs2]
      exact Md_t (Md_m g2 (by decide) (by decide)) (Md_t (Md_f (by decide)) (Md_f (by decide)))
    have a23 : s2.1 85 3 = nI (sk b i + 1) := by rw [← hs2, wrI_1, wr1_at, if_pos rfl]
    have a25 : s2.1 85 5 = nI (b (sk b i) - 49) := by rw [← hs2, wrI_1, wr1_at, if_neg (by decide), wrI_1, wr1_at, if_pos rfl]
    have a24 : s2.1 85 4 = -1 := by rw [← hs2, wrI_1, wr1_at, if_neg (by decide), wrI_1, wr1_at, if_neg (by decide), g2.2.1 4 (by decide)]; exact h4
    have hR2 := RTX_md h m2 (by decide) (by decide)
    have e53 : (wrI s1 85 5 (nI (b (sk b i) - 49))).1 85 3 = nI (sk b i) := by rw [wrI_1, wr1_at, if_neg (by decide)]; exact g3
    have pre : G_M_number N s p0 p1 p2 p3 p4 = (G_M_isDigit N s2).bind fun r12 => if r12.1 = 0 then G_M_number_96 N p0 p1 p2 p3 p4 r12.2 else ((G_M_here N r12.2).bind fun r26 => G_M_number_96 N p0 p1 p2 p3 p4 (wrI (wrI r26.2 85 5 (((10 * (r12.2.1 85 5)) + r26.1) - 48)) 85 3 (((wrI r26.2 85 5 (((10 * (r12.2.1 85 5)) + r26.1) - 48)).1 85 3) + 1))) := by
      unfold G_M_number
      rw [hh, Option.bind_some]
      dsimp only
      rw [if_pos ((cd_32 hT).mpr y1), g1, Option.bind_some]
      dsimp only
      rcases r_isDigit (N := N) hR hle g3 with ⟨d, e⟩ | ⟨d, e⟩
      · rw [e, Option.bind_some]
        dsimp only
        rw [if_neg i10, hh1, Option.bind_some]
        dsimp only
        rw [hdv, e53, nI_1, hs2]
      · exact absurd y2 d
    rcases hnum with ⟨_, _, y3, y⟩ | ⟨_, _, y3, y⟩
    · refine tail s2 _ _ y m2 a23 a24 a25 ?_
      rw [pre]
      rcases r_isDigit (N := N) hR2 (by omega) a23 with ⟨d, e⟩ | ⟨d, e⟩
      · exact absurd d y3
      · rw [e, Option.bind_some]
        dsimp only
        rw [if_pos rfl]
    · have l2 := hlt _ y3
      have hh2 := r_here (N := N) hR2 (by omega) a23
      have hval : 10 * nI (b (sk b i) - 49) + cd (b (sk b i + 1)) - 48 = nI (10 * (b (sk b i) - 49) + (b (sk b i + 1) - 49)) := by
        unfold dg at y3 y2
        obtain ⟨v, hv⟩ : ∃ v, b (sk b i + 1) = v + 1 := ⟨b (sk b i + 1) - 1, by omega⟩
        rw [hv, cd_s, L_10, L_48, nI_mul, nI_add, pk_sub (by omega)]
        congr 1
        omega
      generalize hs3 : wrI (wrI s2 85 5 (nI (10 * (b (sk b i) - 49) + (b (sk b i + 1) - 49)))) 85 3 (nI (sk b i + 1 + 1)) = s3
      have m3 : Md [] [3, 4, 5] s s3 := by
        rw [← hs3]
        exact Md_t m2 (Md_t (Md_f (by decide)) (Md_f (by decide)))
      refine tail s3 _ _ y m3 (by rw [← hs3, wrI_1, wr1_at, if_pos rfl]) (by rw [← hs3, wrI_1, wr1_at, if_neg (by decide), wrI_1, wr1_at, if_neg (by decide)]; exact a24) (by rw [← hs3, wrI_1, wr1_at, if_neg (by decide), wrI_1, wr1_at, if_pos rfl]) ?_
      rw [pre]
      have e63 : (wrI s2 85 5 (nI (10 * (b (sk b i) - 49) + (b (sk b i + 1) - 49)))).1 85 3 = nI (sk b i + 1) := by rw [wrI_1, wr1_at, if_neg (by decide)]; exact a23
      rcases r_isDigit (N := N) hR2 (by omega) a23 with ⟨d, e⟩ | ⟨d, e⟩
      · rw [e, Option.bind_some]
        dsimp only
        rw [if_neg i10, hh2, Option.bind_some]
        dsimp only
        rw [a25, hval, e63, nI_1, hs3]
      · exact absurd y3 d
end CNM
