/-! ===== NEXT: the reference ===== -/
def q_bx (A : AP) (k : Nat) : Nat := if q_ei A k = 0 then q_fr A (q_ey A k) else q_tb A (q_ey A k)
noncomputable def q_bs (A : AP) (wet box : Nat) (p3 : Int32) : Nat → Nat × Nat × Nat
  | 0 => (0, 0, 0)
  | k + 1 => if q_way A box (q_bx A k) = 0 then q_bs A wet box p3 k else if nI (q_way A box (q_bx A k) - 1) ≤ p3 then (if (q_bs A wet box p3 k).1 = 0 ∨ q_lg A (q_tl A k wet) (2 ^ q_nt A) < (q_bs A wet box p3 k).2.1 ∨ (q_lg A (q_tl A k wet) (2 ^ q_nt A) = (q_bs A wet box p3 k).2.1 ∧ q_way A box (q_bx A k) - 1 < (q_bs A wet box p3 k).2.2) then (k + 1, q_lg A (q_tl A k wet) (2 ^ q_nt A), q_way A box (q_bx A k) - 1) else q_bs A wet box p3 k) else q_bs A wet box p3 k
theorem q_bs_le {A : AP} {wet box : Nat} {p3 : Int32} (hA : WF A) : ∀ k, (q_bs A wet box p3 k).1 ≤ k ∧ (q_bs A wet box p3 k).2.1 ≤ 2 ^ q_nt A ∧ (q_bs A wet box p3 k).2.2 ≤ 1600 := by
  intro k
  induction k with
  | zero => exact ⟨Nat.le_refl _, Nat.zero_le _, Nat.zero_le _⟩
  | succ k ih =>
    have h1 := q_lg_le (A := A) (T := q_tl A k wet) (2 ^ q_nt A)
    have h2 := q_way_le hA (a := box) (b := q_bx A k)
    unfold q_bs
    split
    · exact ⟨by omega, ih.2⟩
    · split
      · split
        · exact ⟨Nat.le_refl _, h1, by dsimp only; omega⟩
        · exact ⟨by omega, ih.2⟩
      · exact ⟨by omega, ih.2⟩
noncomputable def q_next (A : AP) (wet box : Nat) (p3 : Int32) : Nat := if q_fc A (2 ^ q_nt A) = 0 then 0 else (q_bs A wet box p3 (q_ne A)).1
theorem q_bx_lt {A : AP} (hA : WF A) {k : Nat} (hk : k < q_ne A) : q_bx A k < q_nb A := by
  obtain ⟨w1, w2, w3, w4, w5, w6⟩ := hA.2.2.2.2.2.1 k hk
  have := hA.2.1 _ w4
  unfold q_bx
  split <;> omega
section NXR
variable {N t : Nat} {s : mst} {A : AP}
theorem r_boxOf (ht : t < 6) (hA : WF A) (hR : RP s t A) {k : Nat} (hk : k < q_ne A) : G_M_boxOf N s (nI t) (nI k) = some (nI (q_bx A k), s) := by
  have hc := hA.1
  unfold WFc at hc
  obtain ⟨w1, w2, w3, w4, w5, w6⟩ := hA.2.2.2.2.2.1 k hk
  obtain ⟨e1, e2, e3, e4, e5⟩ := hR.2.2.2.1.2 k hk
  have fin : ∀ c e, c = q_ey A k → e = q_ei A k → G_M_boxOf_62 N (nI (7 * t) + nI c) (nI e) s = some (nI (q_bx A k), s) := by
    intro c e h1 h2
    subst h1; subst h2
    unfold G_M_boxOf_62 G_M_boxOf_82 q_bx
    rw [nI_add]
    by_cases h : q_ei A k = 0
    · rw [if_pos (by rw [h]; rfl), if_pos h, rdA_nI (by omega) (by decide), Option.bind_some, rp_fr hR w4]
    · rw [if_neg (nI_ne0 (by omega) (by omega)), if_neg h, rdA_nI (by omega) (by decide), Option.bind_some, rp_tb hR w4]
  unfold G_M_boxOf G_M_boxOf_35
  rw [L_12, L_7, nI_mul, nI_mul, nI_add, rdA_nI (by omega) (by decide), Option.bind_some, e1]
  by_cases h0 : q_ek A k = 0
  · obtain ⟨e6, e7⟩ := e5 h0
    rw [if_pos (by rw [h0]; rfl), rdA_nI (by omega) (by decide), Option.bind_some, Option.bind_some, e6, if_pos (by rw [h0]; rfl), rdA_nI (by omega) (by decide), Option.bind_some, e7]
    exact fin _ _ rfl rfl
  · have h1 := w6 (by omega)
    rw [if_neg (nI_ne0 (by omega) (by omega)), rdA_nI (by omega) (by decide), Option.bind_some, Option.bind_some, e2, if_neg (nI_ne0 (by omega) (by omega)), rdA_nI (by omega) (by decide), Option.bind_some, e4]
    exact fin _ _ h1.1.symm h1.2.symm
theorem r_next (hN : 2000 ≤ N) (ht : t < 6) (hA : WF A) (hR : RP s t A) {wet box : Nat} {p3 : Int32} (hwet : wet ≤ 1) (hbox : box < q_nb A) (hL : LF s A (2 ^ q_nt A)) : ∃ s', G_M_next_53 N (nI t) (nI wet) (nI box) p3 N (-1) 0 0 0 s = some (cd (q_next A wet box p3), s') ∧ Md [106, 107, 108, 109, 123, 124] [29, 30, 31, 34, 51, 52] s s' := by
  have hpw := pow10 hA.1.2.2.2.2.2.1
  have hc := hA.1
  unfold WFc at hc
  have hne : q_ne A ≤ 12 := by omega
  refine Exists.elim (lpQ (F := fun f k (q : (Int32 × Nat × Nat) × mst) => G_M_next_53 N (nI t) (nI wet) (nI box) p3 f q.1.1 (nI q.1.2.1) (nI q.1.2.2) (nI k) q.2) (n := q_ne A) (I := fun k q => (q_fc A (2 ^ q_nt A) = 0 → q.1.1 = -1) ∧ (q_fc A (2 ^ q_nt A) ≠ 0 → q.1 = (cd (q_bs A wet box p3 k).1, (q_bs A wet box p3 k).2)) ∧ Md [106, 107, 108, 109, 123, 124] [29, 30, 31, 34, 51, 52] s q.2) (Q := fun r => r.1 = cd (q_next A wet box p3) ∧ Md [106, 107, 108, 109, 123, 124] [29, 30, 31, 34, 51, 52] s r.2) ?_ ?_ N 0 ((-1, 0, 0), s) (Nat.zero_le _) (by omega) ⟨fun _ => rfl, fun _ => by unfold q_bs; rw [cd_0], Md_r⟩) ?_
  · intro f k ⟨⟨x5, x6, x7⟩, s1⟩ hk ⟨i0, i1, i2⟩
    dsimp only at i0 i1 i2 ⊢
    have R1 : RP s1 t A := RP_md hR i2 (by decide)
    have L1 : LF s1 A (2 ^ q_nt A) := fun w hw => by rw [i2.1 122 (by decide) (by decide)]; exact hL w hw
    have hbx := q_bx_lt hA hk
    have hwl := q_way_le hA (a := box) (b := q_bx A k)
    obtain ⟨s2, g1, g2, g3, g4⟩ := r_layParts (N := N) hN ht hA R1 hk hwet L1
    have hlg := q_lg_le (A := A) (T := q_tl A k wet) (2 ^ q_nt A)
    have hun : G_M_next_53 N (nI t) (nI wet) (nI box) p3 (f + 1) x5 (nI x6) (nI x7) (nI k) s1 = if cd (q_way A box (q_bx A k)) = -1 then G_M_next_53 N (nI t) (nI wet) (nI box) p3 f x5 (nI x6) (nI x7) (nI (k + 1)) s1 else if cd (q_way A box (q_bx A k)) ≤ p3 then (if nI (q_lg A (q_tl A k wet) (2 ^ q_nt A)) = 0 then some (-1, s2) else if x5 = -1 then G_M_next_53 N (nI t) (nI wet) (nI box) p3 f (nI k) (nI (q_lg A (q_tl A k wet) (2 ^ q_nt A))) (cd (q_way A box (q_bx A k))) (nI (k + 1)) s2 else if nI x6 < nI (q_lg A (q_tl A k wet) (2 ^ q_nt A)) then G_M_next_53 N (nI t) (nI wet) (nI box) p3 f x5 (nI x6) (nI x7) (nI (k + 1)) s2 else if nI (q_lg A (q_tl A k wet) (2 ^ q_nt A)) = nI x6 then (if cd (q_way A box (q_bx A k)) < nI x7 then G_M_next_53 N (nI t) (nI wet) (nI box) p3 f (nI k) (nI (q_lg A (q_tl A k wet) (2 ^ q_nt A))) (cd (q_way A box (q_bx A k))) (nI (k + 1)) s2 else G_M_next_53 N (nI t) (nI wet) (nI box) p3 f x5 (nI x6) (nI x7) (nI (k + 1)) s2) else G_M_next_53 N (nI t) (nI wet) (nI box) p3 f (nI k) (nI (q_lg A (q_tl A k wet) (2 ^ q_nt A))) (cd (q_way A box (q_bx A k))) (nI (k + 1)) s2) else G_M_next_53 N (nI t) (nI wet) (nI box) p3 f x5 (nI x6) (nI x7) (nI (k + 1)) s1 := by
      show GB_M_next_53 N (G_M_next_53 N (nI t) (nI wet) (nI box) p3 f) (nI t) (nI wet) (nI box) p3 x5 (nI x6) (nI x7) (nI k) s1 = _
      unfold GB_M_next_53 G_M_next_160 G_M_next_146 G_M_next_160 G_M_next_110
      rw [rdA_nI (by omega) (by decide), Option.bind_some, R1.2.2.2.1.1, if_neg (nI_ge hk (by omega)), r_boxOf ht hA R1 hk, Option.bind_some]
      dsimp only
      rw [r_walkOf (by omega) ht hA R1 hbox hbx, Option.bind_some]
      dsimp only
      rw [g1, Option.bind_some, g4, nI_1]
    rw [hun]
    have hbl := q_bs_le (wet := wet) (box := box) (p3 := p3) hA k
    by_cases c1 : q_way A box (q_bx A k) = 0
    · left
      rw [if_pos ((cd_n1 (by omega)).mpr c1)]
      refine ⟨((x5, x6, x7), s1), ⟨i0, fun h => ?_, i2⟩, rfl⟩
      rw [i1 h]
      conv => rhs; unfold q_bs
      rw [if_pos c1]
    · rw [if_neg (show ¬ cd (q_way A box (q_bx A k)) = -1 from fun e => c1 ((cd_n1 (by omega)).mp e))]
      obtain ⟨W, hW⟩ : ∃ W, q_way A box (q_bx A k) = W + 1 := ⟨q_way A box (q_bx A k) - 1, by omega⟩
      rw [hW, cd_s]
      by_cases c2 : nI W ≤ p3
      · rw [if_pos c2]
        by_cases c3 : q_lg A (q_tl A k wet) (2 ^ q_nt A) = 0
        · right
          have hfc := (q_lg_z _).mp c3
          rw [if_pos (by rw [c3]; rfl)]
          refine ⟨(-1, s2), ⟨?_, Md_t i2 g2⟩, rfl⟩
          show (-1 : Int32) = cd (q_next A wet box p3)
          unfold q_next
          rw [if_pos hfc, cd_0]
        · left
          have hfc : q_fc A (2 ^ q_nt A) ≠ 0 := fun e => c3 ((q_lg_z _).mpr e)
          rw [if_neg (nI_ne0 (by omega) (by omega))]
          have hx := i1 hfc
          have hb : q_bs A wet box p3 (k + 1) = if (q_bs A wet box p3 k).1 = 0 ∨ q_lg A (q_tl A k wet) (2 ^ q_nt A) < (q_bs A wet box p3 k).2.1 ∨ (q_lg A (q_tl A k wet) (2 ^ q_nt A) = (q_bs A wet box p3 k).2.1 ∧ W < (q_bs A wet box p3 k).2.2) then (k + 1, q_lg A (q_tl A k wet) (2 ^ q_nt A), W) else q_bs A wet box p3 k := by
            conv => lhs; unfold q_bs
            rw [if_neg c1, hW, Nat.add_sub_cancel, if_pos c2]
          have hx5 : x5 = cd (q_bs A wet box p3 k).1 := congrArg Prod.fst hx
          have hx67 : (x6, x7) = (q_bs A wet box p3 k).2 := congrArg Prod.snd hx
          have hx6 : x6 = (q_bs A wet box p3 k).2.1 := congrArg Prod.fst hx67
          have hx7 : x7 = (q_bs A wet box p3 k).2.2 := congrArg Prod.snd hx67
          rw [← hx6, ← hx7] at hb
          have take : (q_bs A wet box p3 k).1 = 0 ∨ q_lg A (q_tl A k wet) (2 ^ q_nt A) < x6 ∨ (q_lg A (q_tl A k wet) (2 ^ q_nt A) = x6 ∧ W < x7) → (fun (k' : Nat) (q : (Int32 × Nat × Nat) × mst) => (q_fc A (2 ^ q_nt A) = 0 → q.1.1 = -1) ∧ (q_fc A (2 ^ q_nt A) ≠ 0 → q.1 = (cd (q_bs A wet box p3 k').1, (q_bs A wet box p3 k').2)) ∧ Md [106, 107, 108, 109, 123, 124] [29, 30, 31, 34, 51, 52] s q.2) (k + 1) ((nI k, q_lg A (q_tl A k wet) (2 ^ q_nt A), W), s2) := by
            intro hh
            refine ⟨fun h => absurd h hfc, fun _ => ?_, Md_t i2 g2⟩
            rw [hb, if_pos hh]
            dsimp only
            rw [cd_s]
          have leave : ¬ ((q_bs A wet box p3 k).1 = 0 ∨ q_lg A (q_tl A k wet) (2 ^ q_nt A) < x6 ∨ (q_lg A (q_tl A k wet) (2 ^ q_nt A) = x6 ∧ W < x7)) → (fun (k' : Nat) (q : (Int32 × Nat × Nat) × mst) => (q_fc A (2 ^ q_nt A) = 0 → q.1.1 = -1) ∧ (q_fc A (2 ^ q_nt A) ≠ 0 → q.1 = (cd (q_bs A wet box p3 k').1, (q_bs A wet box p3 k').2)) ∧ Md [106, 107, 108, 109, 123, 124] [29, 30, 31, 34, 51, 52] s q.2) (k + 1) ((x5, x6, x7), s2) := by
            intro hh
            refine ⟨fun h => absurd h hfc, fun _ => ?_, Md_t i2 g2⟩
            rw [hb, if_neg hh]
            exact hx
          by_cases d1 : (q_bs A wet box p3 k).1 = 0
          · rw [if_pos (by rw [hx5, d1, cd_0])]
            exact ⟨_, take (Or.inl d1), rfl⟩
          · rw [if_neg (by rw [hx5]; exact fun e => d1 ((cd_n1 (by omega)).mp e))]
            by_cases d2 : x6 < q_lg A (q_tl A k wet) (2 ^ q_nt A)
            · rw [if_pos (nI_lt d2 (by omega))]
              exact ⟨_, leave (by omega), rfl⟩
            · rw [if_neg (nI_nlt (by omega) (by omega))]
              by_cases d3 : q_lg A (q_tl A k wet) (2 ^ q_nt A) = x6
              · rw [if_pos (by rw [d3])]
                by_cases d4 : W < x7
                · rw [if_pos (nI_lt d4 (by omega))]
                  exact ⟨_, take (by omega), rfl⟩
                · rw [if_neg (nI_nlt (by omega) (by omega))]
                  exact ⟨_, leave (by omega), rfl⟩
              · rw [if_neg (fun e => d3 ((nI_eq (by omega) (by omega)).mp e))]
                exact ⟨_, take (by omega), rfl⟩
      · left
        rw [if_neg c2]
        refine ⟨((x5, x6, x7), s1), ⟨i0, fun h => ?_, i2⟩, rfl⟩
        rw [i1 h]
        conv => rhs; unfold q_bs
        rw [if_neg c1, hW, Nat.add_sub_cancel, if_neg c2]
  · intro f ⟨⟨x5, x6, x7⟩, s1⟩ ⟨i0, i1, i2⟩
    dsimp only at i0 i1 i2 ⊢
    have R1 : RP s1 t A := RP_md hR i2 (by decide)
    refine ⟨(x5, s1), ⟨?_, i2⟩, ?_⟩
    · show x5 = _
      unfold q_next
      by_cases c : q_fc A (2 ^ q_nt A) = 0
      · rw [if_pos c, cd_0]; exact i0 c
      · rw [if_neg c]; exact congrArg Prod.fst (i1 c)
    · show GB_M_next_53 N (G_M_next_53 N (nI t) (nI wet) (nI box) p3 f) (nI t) (nI wet) (nI box) p3 x5 (nI x6) (nI x7) (nI (q_ne A)) s1 = _
      unfold GB_M_next_53 G_M_next_166
      rw [rdA_nI (by omega) (by decide), Option.bind_some, R1.2.2.2.1.1, if_pos (nI_le (Nat.le_refl _) (by omega))]
  · intro r ⟨⟨h1, h2⟩, e⟩
    refine ⟨r.2, ?_, h2⟩
    rw [← h1]
    exact e
end NXR
