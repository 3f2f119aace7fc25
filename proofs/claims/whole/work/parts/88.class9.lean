/-! ===== METRES in the class are METRES ===== -/
theorem FST_c {e L v : Nat} {P P' : Nat → Prop} (h : FST e L P v) (c : ∀ d, d ≤ L → (P' d ↔ P d)) : FST e L P' v := by
  rcases h with ⟨h1, h2⟩ | ⟨d, h1, h2, h3, h4⟩
  · exact Or.inl ⟨h1, fun d hd hp => h2 d hd ((c d hd).mp hp)⟩
  · exact Or.inr ⟨d, h1, h2, (c d h1).mpr h3, fun d' hd' hp => h4 d' hd' ((c d' hd').mp hp)⟩
section ME2
variable {h0 : Nat → pm_C} {B : Nat} {D : Nat → pd} {hi z : Nat} {s : mst} {N P : Nat} {A : AP} {w wet k : Nat} {b : Nat × Nat}
theorem q_TT_L (hA : WF A) {u o d : Nat} (h : q_TT A w u o d ∨ q_TT A w o u d) : d ≤ q_ln A (u / 8) := by
  rcases h with ⟨k, hk, hi, ha, hb, hd⟩ | ⟨k, hk, hi, ha, hb, hd⟩
  · obtain ⟨_, _, a3, a4, _⟩ := q_abst hA hk (Or.inr hi.2)
    have := (hA.2.2.2.2.1 k hk).2.2.2.2 (Or.inr hi.2)
    rw [← ha, a3, ← hd]; exact this
  · obtain ⟨_, _, a3, a4, _⟩ := q_abst hA hk (Or.inr hi.2)
    have := (hA.2.2.2.2.1 k hk).2.2.2.2 (Or.inr hi.2)
    rw [← hb, a4, ← hd]; exact this
theorem mt_touch (hG : GW A w b wet) (hw1 : wet = 1) {u e vt vb : Nat} (ht : LSt (fun k => ∃ d, (∃ o, q_TT A w u o d ∨ q_TT A w o u d) ∧ k = q_dk e (q_ln A (u / 8)) d) vt) (hb : ∀ d, d ≤ q_ln A (u / 8) → (q_nk A w b u d = q_he A w b u e ↔ (vb = 0 ∨ q_dk e (q_ln A (u / 8)) d < vb - 1 ∨ (q_dk e (q_ln A (u / 8)) d = vb - 1 ∧ e = 1)))) : ∃ tv, FST e (q_ln A (u / 8)) (q_TP A w b wet u e) tv ∧ ((tv = 0 ∧ (vt = 0 ∨ ¬ (vb = 0 ∨ vt - 1 < vb - 1 ∨ (vt - 1 = vb - 1 ∧ e = 1)))) ∨ (tv ≠ 0 ∧ vt ≠ 0 ∧ (vb = 0 ∨ vt - 1 < vb - 1 ∨ (vt - 1 = vb - 1 ∧ e = 1)) ∧ q_dk e (q_ln A (u / 8)) (tv - 1) = vt - 1)) := by
  have hA := hG.1
  have hS : ∀ d, (∃ o, q_TT A w u o d ∨ q_TT A w o u d) → d ≤ q_ln A (u / 8) := fun d ⟨o, ho⟩ => q_TT_L hA ho
  have ht' := ht
  obtain ⟨f, f1, f2⟩ := LSt_FST hS ht
  rcases f2 with ⟨f2, f3⟩ | ⟨d, d1, d2, d3, d4⟩
  · refine ⟨0, Or.inl ⟨rfl, fun d hd hp => ?_⟩, Or.inl ⟨rfl, Or.inl f2⟩⟩
    rw [f3] at f1
    rcases f1 with ⟨_, g⟩ | ⟨q, _, g, _⟩
    · exact g d hd hp.2.1
    · omega
  · by_cases hC : q_nk A w b u d = q_he A w b u e
    · refine ⟨d + 1, Or.inr ⟨d, d1, rfl, ⟨hw1, d2, hC⟩, fun d' hd' hp => ?_⟩, Or.inr ⟨by omega, by omega, ?_, ?_⟩⟩
      · rw [d4] at f1
        rcases f1 with ⟨g, _⟩ | ⟨q, _, g, _, g2⟩
        · omega
        · have := g2 d' hd' hp.2.1
          rw [show q = d by omega] at this
          exact this
      · have := (hb d d1).mp hC
        rw [d3, Nat.add_sub_cancel]
        exact this
      · rw [d3, Nat.add_sub_cancel, Nat.add_sub_cancel]
    · refine ⟨0, Or.inl ⟨rfl, fun d' hd' hp => ?_⟩, Or.inl ⟨rfl, Or.inr (fun hh => hC ((hb d d1).mpr ?_))⟩⟩
      · rcases ht' with ⟨g, _⟩ | ⟨q, g1, _, g3⟩
        · omega
        · have h1 := g3 _ ⟨d', hp.2.1, rfl⟩
          have h2 := (hb d' hd').mp hp.2.2
          apply hC
          rw [hb d d1]
          omega
      · rw [d3, Nat.add_sub_cancel] at hh
        exact hh
theorem c_hangsBehind (hf : FX D hi) (hA : WF A) (h : CW D hi s A w b P) (hPb : P + 30 < 2 ^ 31) {u : Nat} (hu : q_st A u) : F_Wires_hangsBehind N (mkM h0 B D hi z s) (B + 6) (nI u) = some (nI (if q_hg A w (q_out A w u) ≠ 0 then 1 else 0), (mkM h0 B D hi z s)) := by
  obtain ⟨h1, ⟨Y, h2, h3, h4, h5⟩, h6, h7, h8⟩ := h
  obtain ⟨_, _, y1, y2, y3, y4⟩ := id h4
  have hul := q_st_lt hA hu
  have hol := q_st_lt hA ((q_out_st hA (w := w)).1.mpr hu)
  have r12 : AR D hi 12 56 := ar_fx hf (by decide) (fx_12 hf) (by decide)
  have hrof : rof B (s.1 6 10) = some (B + Y) := by rw [h2]; exact rof_nI (by omega)
  have hle : q_hg A w (q_out A w u) ≤ 10 := (LV_lw hA w (q_ns A) (Nat.le_refl _) (q_out A w u)).2
  unfold F_Wires_hangsBehind F_Wires_hangsBehind_27
  rw [rcm_6 hf, if_pos rfl, o6_10 hf, hrof]
  dsimp only [Option.bind_some]
  rw [yt_2 h4]
  dsimp only [Option.bind_some]
  rw [rdm_6_1 hf]
  dsimp only [Option.bind_some]
  rw [ar_v r12, vat_nI hul.1 (by decide), (h6 u hul.1).1]
  dsimp only [Option.bind_some]
  rw [ar_v y3, vat_nI hol.1 (by decide), (h5.1 _ hol.1).2.2]
  dsimp only [Option.bind_some]
  have hcd := cd_n1 (show (q_lw A w (q_ns A)).2 (q_out A w u) < 2 ^ 31 from by have : (q_lw A w (q_ns A)).2 (q_out A w u) ≤ 10 := hle; omega)
  by_cases hz : q_hg A w (q_out A w u) = 0
  · rw [if_pos (hcd.mpr hz), if_pos (Or.inl rfl), if_neg (fun e => e hz)]
    rfl
  · rw [if_neg (fun e => hz (hcd.mp e)), if_pos (Or.inr rfl), if_pos hz]
    rfl
theorem c_met14 (hN : 1000 ≤ N) (hf : FX D hi) (hp : PL D hi P) (hG : GW A w b wet) (hb : GB A b) (hPb : P + 30 < 2 ^ 31) (hcp : CP s P A) (h : CW D hi s A w b P) {e : Nat} (he : e < 2) : ∀ m u g leg fuel, q_st A u → q_ms A e u ≤ m → m + leg ≤ 7 → m < fuel → g + 99 * m ≤ 1000 → ∃ r, q_mt A w b wet e m u g r ∧ F_Wires_measure_14 N (B + 6) (nI wet) (nI e) fuel (nI u) (nI g) (nI leg) (mkM h0 B D hi z s) = some (nI r, (mkM h0 B D hi z s)) := by
  have hA := hG.1
  intro m
  induction m with
  | zero => intro u g leg fuel hu hm; have := q_ms_pos hA (e := e) hu; omega
  | succ m ih =>
    intro u g leg fuel hu hm hl hfu hg
    obtain ⟨fuel, rfl⟩ : ∃ f, fuel = f + 1 := ⟨fuel - 1, by omega⟩
    have hul := q_st_lt hA hu
    have hxx := hA.2.1 (u / 8) hu.1
    have hrof : rof B (s.1 6 9) = some (B + P) := by rw [h.1]; exact rof_nI (by omega)
    obtain ⟨vb, b1, b2, b3, b4⟩ := c_toFirstBreak (N := N) (h0 := h0) (B := B) (z := z) (u := u) (L := q_ln A (u / 8)) (e := e) (by omega) hf hul.1 (by omega) he h.2.2.2.1 (q_nk_99 hG hb)
    have b4' : ∀ d, d ≤ q_ln A (u / 8) → (q_nk A w b u d = q_he A w b u e ↔ (vb = 0 ∨ q_dk e (q_ln A (u / 8)) d < vb - 1 ∨ (q_dk e (q_ln A (u / 8)) d = vb - 1 ∧ e = 1))) := by
      intro d hd
      unfold q_he
      exact b4 d hd
    obtain ⟨bf, bf1, bf2⟩ := LSt_FST (fun d hd => hd.1) b3
    have bf1' : FST e (q_ln A (u / 8)) (q_BP A w b u) bf := FST_c bf1 (fun d hd => ⟨fun hq => ⟨hd, hq⟩, fun hq => hq.2⟩)
    -- the touch
    have htouch : ∃ vt tv, (∀ T, (∃ r, q_mt A w b wet e (m + 1) u g r ∧ F_Wires_measure_52 N (F_Wires_measure_14 N (B + 6) (nI wet) (nI e) fuel) (B + 6) (nI wet) (nI e) (nI u) (nI g) (nI leg) (nI (q_ln A (u / 8))) (cd vt) (mkM h0 B D hi z s) = some (nI r, (mkM h0 B D hi z s))) → T = (∃ r, q_mt A w b wet e (m + 1) u g r ∧ F_Wires_measure_14 N (B + 6) (nI wet) (nI e) (fuel + 1) (nI u) (nI g) (nI leg) (mkM h0 B D hi z s) = some (nI r, (mkM h0 B D hi z s))) → T) ∧ vt ≤ 200 ∧ FST e (q_ln A (u / 8)) (q_TP A w b wet u e) tv ∧ ((tv = 0 ∧ (vt = 0 ∨ ¬ (vb = 0 ∨ vt - 1 < vb - 1 ∨ (vt - 1 = vb - 1 ∧ e = 1)))) ∨ (tv ≠ 0 ∧ vt ≠ 0 ∧ (vb = 0 ∨ vt - 1 < vb - 1 ∨ (vt - 1 = vb - 1 ∧ e = 1)) ∧ q_dk e (q_ln A (u / 8)) (tv - 1) = vt - 1)) := by
      have hstep : F_Wires_measure_14 N (B + 6) (nI wet) (nI e) (fuel + 1) (nI u) (nI g) (nI leg) (mkM h0 B D hi z s) = if nI wet = 0 then F_Wires_measure_52 N (F_Wires_measure_14 N (B + 6) (nI wet) (nI e) fuel) (B + 6) (nI wet) (nI e) (nI u) (nI g) (nI leg) (nI (q_ln A (u / 8))) (-1) (mkM h0 B D hi z s) else (F_Wires_toFirstTouch N (mkM h0 B D hi z s) (B + 6) (nI u) (nI e) (nI (q_ln A (u / 8)))).bind fun (v26, S25) => F_Wires_measure_52 N (F_Wires_measure_14 N (B + 6) (nI wet) (nI e) fuel) (B + 6) (nI wet) (nI e) (nI u) (nI g) (nI leg) (nI (q_ln A (u / 8))) v26 S25 := by
        show B_Wires_measure_14 N (F_Wires_measure_14 N (B + 6) (nI wet) (nI e) fuel) (B + 6) (nI wet) (nI e) (nI u) (nI g) (nI leg) (mkM h0 B D hi z s) = _
        unfold B_Wires_measure_14
        rw [L_7, if_neg (nI_ge (show leg < 7 by omega) (by decide)), o6_9 hf, hrof]
        dsimp only [Option.bind_some]
        rw [c_cableOf (by omega)]
        dsimp only [Option.bind_some]
        rw [c_lengthOf hp hcp hA hu.1]
        rfl
      by_cases hw0 : wet = 0
      · refine ⟨0, 0, fun T hT hTe => ?_, by omega, Or.inl ⟨rfl, fun d _ hq => by have := hq.1; omega⟩, Or.inl ⟨rfl, Or.inl rfl⟩⟩
        rw [hTe, hstep, hw0, if_pos nI_0, ← cd_0]
        rw [hw0] at hT
        exact hT
      · have hw1 : wet = 1 := by have := hG.2.2.1; omega
        obtain ⟨vt, t1, t2, t3⟩ := c_toFirstTouch (N := N) (h0 := h0) (B := B) (z := z) (u := u) (L := q_ln A (u / 8)) (e := e) (by omega) hf hul.1 (by omega) he h.2.2.2.2 (fun o d ho => q_TT_L hA ho)
        obtain ⟨tv, t4, t5⟩ := mt_touch hG hw1 t3 b4'
        refine ⟨vt, tv, fun T hT hTe => ?_, t2, t4, t5⟩
        rw [hTe, hstep, if_neg (nI_ne0 (by omega) (by omega)), t1]
        exact hT
    obtain ⟨vt, tv, hred, vtl, t4, t5⟩ := htouch
    refine hred _ ?_ rfl
    unfold F_Wires_measure_52
    rw [b1]
    dsimp only [Option.bind_some]
    -- no touch
    have h106 : tv = 0 → ∃ r, q_mt A w b wet e (m + 1) u g r ∧ F_Wires_measure_106 N (F_Wires_measure_14 N (B + 6) (nI wet) (nI e) fuel) (B + 6) (nI wet) (nI e) (nI u) (nI g) (nI leg) (nI (q_ln A (u / 8))) (cd vb) (mkM h0 B D hi z s) = some (nI r, (mkM h0 B D hi z s)) := by
      intro tv0
      unfold F_Wires_measure_106
      rcases bf2 with ⟨g1, g2⟩ | ⟨d, g1, g2, g3, g4⟩
      · rw [if_pos ((cd_n1 (by omega)).mpr g1), c_wireBehind hf hA h hPb hu he]
        dsimp only [Option.bind_some]
        have hnl : q_nx A w u e ≤ 57 := by
          by_cases hq : q_nx A w u e = 0
          · omega
          · have := q_st_lt hA (q_nx_st hA hu hq).1; omega
        by_cases hnx : q_nx A w u e = 0
        · rw [if_pos ((cd_n1 (by omega)).mpr hnx), nI_add]
          refine ⟨4 * (g + q_ln A (u / 8)) + if e = 0 ∧ q_hg A w (q_out A w u) ≠ 0 then 1 else 0, ⟨tv, bf, t4, bf1', Or.inr (Or.inr (Or.inl ⟨tv0, g2, hnx, rfl⟩))⟩, ?_⟩
          unfold F_Wires_measure_142 F_Wires_measure_163 F_Wires_measure_164
          by_cases he0 : e = 0
          · rw [if_pos (by rw [he0]; rfl), c_hangsBehind hf hA h hPb hu]
            dsimp only [Option.bind_some]
            by_cases hz : q_hg A w (q_out A w u) = 0
            · rw [if_neg (show ¬ q_hg A w (q_out A w u) ≠ 0 from fun x => x hz), if_pos nI_0, if_neg (show ¬ (e = 0 ∧ q_hg A w (q_out A w u) ≠ 0) from fun x => x.2 hz), L_4, nI_mul, L_0, nI_add]
            · rw [if_pos hz, if_neg (by decide), if_pos ⟨he0, hz⟩, L_4, nI_mul, L_1, nI_add]
          · rw [if_neg (nI_ne0 (by omega) (by omega)), if_neg (fun x => he0 x.1), L_4, nI_mul, L_0, nI_add]
        · obtain ⟨y, hy⟩ : ∃ y, q_nx A w u e = y + 1 := ⟨q_nx A w u e - 1, by omega⟩
          obtain ⟨n1, n2⟩ := q_nx_st hA hu (w := w) (e := e) hnx
          rw [hy, Nat.add_sub_cancel] at n1 n2
          obtain ⟨r, r1, r2⟩ := ih y (g + q_ln A (u / 8)) (leg + 1) fuel n1 (by omega) (by omega) (by omega) (by omega)
          refine ⟨r, ⟨tv, bf, t4, bf1', Or.inr (Or.inr (Or.inr ⟨tv0, g2, hnx, by rw [hy, Nat.add_sub_cancel]; exact r1⟩))⟩, ?_⟩
          rw [hy, cd_s, if_neg (nI_n1 (by omega)), nI_add, nI_1]
          exact r2
      · rw [g3, cd_s, if_neg (nI_n1 (by unfold q_dk; split <;> omega))]
        refine ⟨4 * (g + q_dk e (q_ln A (u / 8)) d), ⟨tv, bf, t4, bf1', Or.inr (Or.inl ⟨tv0, by omega, by rw [g4, Nat.add_sub_cancel]⟩)⟩, ?_⟩
        unfold F_Wires_measure_112
        rw [nI_add, L_4, nI_mul]
    have h96 : tv ≠ 0 → q_dk e (q_ln A (u / 8)) (tv - 1) = vt - 1 → vt ≠ 0 → ∃ r, q_mt A w b wet e (m + 1) u g r ∧ F_Wires_measure_96 N (nI g) (cd vt) (mkM h0 B D hi z s) = some (nI r, (mkM h0 B D hi z s)) := by
      intro tv0 tv1 vt0
      obtain ⟨v1, rfl⟩ : ∃ v1, vt = v1 + 1 := ⟨vt - 1, by omega⟩
      refine ⟨4 * (g + q_dk e (q_ln A (u / 8)) (tv - 1)) + 2, ⟨tv, bf, t4, bf1', Or.inl ⟨tv0, rfl⟩⟩, ?_⟩
      unfold F_Wires_measure_96
      rw [cd_s, tv1, Nat.add_sub_cancel, nI_add, L_4, nI_mul, L_2, nI_add]
    by_cases vt0 : vt = 0
    · rw [if_pos ((cd_n1 (by omega)).mpr vt0)]
      apply h106
      rcases t5 with t5 | t5
      · exact t5.1
      · exact absurd vt0 t5.2.1
    · rw [if_neg (fun x => vt0 ((cd_n1 (by omega)).mp x))]
      by_cases vb0 : vb = 0
      · rw [if_pos ((cd_n1 (by omega)).mpr vb0)]
        rcases t5 with t5 | t5
        · rcases t5.2 with q | q
          · exact absurd q vt0
          · exact absurd (Or.inl vb0) q
        · exact h96 t5.1 t5.2.2.2 t5.2.1
      · rw [if_neg (fun x => vb0 ((cd_n1 (by omega)).mp x))]
        obtain ⟨v1, hv1⟩ : ∃ v1, vt = v1 + 1 := ⟨vt - 1, by omega⟩
        obtain ⟨v2, hv2⟩ : ∃ v2, vb = v2 + 1 := ⟨vb - 1, by omega⟩
        by_cases c1 : v1 < v2
        · rw [if_pos (by rw [hv1, hv2, cd_s, cd_s]; exact nI_lt c1 (by omega))]
          rcases t5 with t5 | t5
          · rcases t5.2 with q | q
            · exact absurd q vt0
            · exact absurd (Or.inr (Or.inl (by omega))) q
          · exact h96 t5.1 t5.2.2.2 t5.2.1
        · rw [if_neg (by rw [hv1, hv2, cd_s, cd_s]; exact nI_nlt (by omega) (by omega))]
          by_cases c2 : v1 = v2
          · rw [if_pos (by rw [hv1, hv2, c2])]
            by_cases c3 : e = 1
            · rw [if_pos (by rw [c3]; rfl)]
              rcases t5 with t5 | t5
              · rcases t5.2 with q | q
                · exact absurd q vt0
                · exact absurd (Or.inr (Or.inr ⟨by omega, c3⟩)) q
              · exact h96 t5.1 t5.2.2.2 t5.2.1
            · rw [L_1, if_neg (fun x => c3 ((nI_eq (by omega) (by decide)).mp x))]
              apply h106
              rcases t5 with t5 | t5
              · exact t5.1
              · have := t5.2.2.1; omega
          · rw [if_neg (by rw [hv1, hv2, cd_s, cd_s]; exact fun x => c2 ((nI_eq (by omega) (by omega)).mp x))]
            apply h106
            rcases t5 with t5 | t5
            · exact t5.1
            · have := t5.2.2.1; omega
theorem c_measure (hN : 1000 ≤ N) (hf : FX D hi) (hp : PL D hi P) (hG : GW A w b wet) (hb : GB A b) (hPb : P + 30 < 2 ^ 31) (hcp : CP s P A) (h : CW D hi s A w b P) {u e : Nat} (hu : q_st A u) (he : e < 2) : ∃ r, MT A w b wet u e r ∧ F_Wires_measure N (mkM h0 B D hi z s) (B + 6) (nI wet) (nI u) (nI e) = some (nI r, (mkM h0 B D hi z s)) := by
  have hA := hG.1
  have hul := q_st_lt hA hu
  unfold F_Wires_measure
  rw [rcm_6 hf, if_pos rfl, sg_Wires_wireAt hf]
  unfold G_Wires_wireAt G_Wires_wireAt_16
  by_cases he0 : e = 0
  · rw [if_pos (by rw [he0]; rfl)]
    obtain ⟨r, r1, r2⟩ := c_met14 (N := N) (h0 := h0) (B := B) (z := z) hN hf hp hG hb hPb hcp h he 7 u 0 0 N hu (q_ms_pos hA hu).2 (by omega) (by omega) (by omega)
    have := q_mt_le hA 7 u 0 r hu r1
    exact ⟨r, ⟨by omega, 7, by rw [if_pos he0]; exact r1⟩, r2⟩
  · rw [if_neg (nI_ne0 (by omega) (by omega)), vat_nI hul.1 (by decide), (h.2.2.1 u hul.1).2]
    have hiu := (q_in_st hA (w := w)).1.mpr hu
    obtain ⟨r, r1, r2⟩ := c_met14 (N := N) (h0 := h0) (B := B) (z := z) hN hf hp hG hb hPb hcp h he 7 (q_in A w u) 0 0 N hiu (q_ms_pos hA hiu).2 (by omega) (by omega) (by omega)
    have := q_mt_le hA 7 _ 0 r hiu r1
    exact ⟨r, ⟨by omega, 7, by rw [if_neg he0]; exact r1⟩, r2⟩
end ME2
