/-! ===== the class's TONE is sent ===== -/
def GB (A : AP) (b : Nat × Nat) : Prop := b.1 = 0 ∨ b.2 ≤ q_ln A ((b.1 - 1) / 8)
theorem q_cn_99 {A : AP} (hA : WF A) {w u : Nat} : ∀ k, k ≤ q_nt A → q_cn A w u 99 k = q_cn A w u (q_ln A (u / 8)) k := by
  intro k
  induction k with
  | zero => intro _; rfl
  | succ k ih =>
    intro hk
    simp only [q_cn]
    rw [ih (by omega)]
    congr 1
    by_cases c : q_is A w k 1 ∧ q_a A k = u
    · have ht := hA.2.2.2.2.1 k (by omega)
      obtain ⟨a1, a2, a3⟩ := q_ast hA (show k < q_nt A by omega) (by have := c.1.2; omega)
      have hd := ht.2.2.2.2 (Or.inl c.1.2)
      have hx := hA.2.1 (q_tx A k) (by have := a1.1; omega)
      rw [← a2, c.2] at hd
      rw [← a2, c.2] at hx
      rw [if_pos ⟨c.1, c.2, by omega⟩, if_pos ⟨c.1, c.2, hd⟩]
    · rw [if_neg (fun z => c ⟨z.1, z.2.1⟩), if_neg (fun z => c ⟨z.1, z.2.1⟩)]
theorem q_nk_99 {A : AP} {w wet u : Nat} {b : Nat × Nat} (hG : GW A w b wet) (hb : GB A b) : q_nk A w b u 99 = q_nk A w b u (q_ln A (u / 8)) := by
  unfold q_nk
  rw [q_cn_99 hG.1 _ (Nat.le_refl _)]
  congr 1
  by_cases c : b.1 = u + 1
  · have h1 : b.2 ≤ q_ln A (u / 8) := by
      rcases hb with z | z
      · omega
      · rw [c, Nat.add_sub_cancel] at z; exact z
    have h2 : b.2 ≤ 99 := by
      rcases hG.2.2.2 with z | z
      · omega
      · exact z.2.2
    rw [if_pos ⟨c, h2⟩, if_pos ⟨c, h1⟩]
  · rw [if_neg (fun z => c z.1), if_neg (fun z => c z.1)]
section SEND
variable {h0 : Nat → pm_C} {B : Nat} {D : Nat → pd} {hi z : Nat} {s : mst} {N P : Nat} {A : AP} {w wet v0 k : Nat} {b : Nat × Nat} {Ex : Nat → Prop}
theorem o6_10 (hf : FX D hi) : oR (mkM h0 B D hi z s) (B + 6) 9 10 = some (rof B (s.1 6 10)) := oD_mk (fx_lt hf (by decide)) (fx_6 hf) (v := 0) rfl
theorem o6_9 (hf : FX D hi) : oR (mkM h0 B D hi z s) (B + 6) 9 9 = some (rof B (s.1 6 9)) := oD_mk (fx_lt hf (by decide)) (fx_6 hf) (v := 0) rfl
theorem c_cableOf {S : pm_S} {u : Nat} (hu : u < 2 ^ 31) : F_BP_cableOf N S (nI u) = some (nI (u / 8), S) := by
  unfold F_BP_cableOf
  rw [L_3, L_31, nI_shr hu (by omega)]
theorem c_pairOf {S : pm_S} {u : Nat} (hu : u < 2 ^ 31) : F_BP_pairOf N S (nI u) = some (nI (u % 8), S) := by
  unfold F_BP_pairOf
  rw [pk_andN (by omega) 3 (by decide)]
theorem c_siteOf {S : pm_S} {x p : Nat} : F_BP_siteOf N S (nI x) (nI p) = some (nI (8 * x + p), S) := by
  unfold F_BP_siteOf
  rw [L_8, nI_mul, nI_add]
theorem CW_fm {s' : mst} {K : Nat → Prop} (h : CW D hi s A w b P) (hm : Fm K s s') (hP : P = 58 ∨ 130 ≤ P) (hK : ∀ q, q = 6 ∨ (8 ≤ q ∧ q ≤ 19) ∨ (P + 10 < q ∧ q ≤ P + 14) → ¬ K q) : CW D hi s' A w b P := by
  obtain ⟨h1, ⟨Y, h2, h3, h4, h5⟩, h6, h7, h8⟩ := h
  have e : ∀ q, q = 6 ∨ (8 ≤ q ∧ q ≤ 19) ∨ (P + 10 < q ∧ q ≤ P + 14) → s'.1 q = s.1 q := fun q hq => hm.1 q (hK q hq)
  refine ⟨by rw [e 6 (by omega)]; exact h1, ⟨Y, by rw [e 6 (by omega)]; exact h2, h3, h4, CL_fm h5 hm ⟨hK _ (by omega), hK _ (by omega), hK _ (by omega), hK _ (by omega)⟩⟩, CO_fm h6 hm ⟨hK _ (by omega), hK _ (by omega)⟩, CB_eq h7 (by rw [e 6 (by omega)]) (e 14 (by omega)) (e 15 (by omega)) (e 16 (by omega)), CT_eq h8 (by rw [e 6 (by omega)]) (e 17 (by omega)) (e 18 (by omega)) (e 19 (by omega))⟩
theorem c_pieceAt (hN : 100 ≤ N) (hf : FX D hi) {f : Nat → Nat → Nat} (h : CB s f 10) {u d : Nat} (hu : u < 56) (hd : d ≤ 99) : F_Wires_pieceAt N (mkM h0 B D hi z s) (B + 6) (nI u) (nI d) = some (nI (f u d), (mkM h0 B D hi z s)) := by
  obtain ⟨⟨n, bw, bm, h1, h2, h3, h4⟩, h5⟩ := h
  rw [sg_Wires_pieceAt hf]
  unfold G_Wires_pieceAt
  refine Exists.elim (lpE (F := fun f i (q : Int32 × mst) => G_Wires_pieceAt_5 N (nI u) (nI d) f q.1 (nI i) q.2) (n := n) (I := fun i q => q.2 = s ∧ q.1 = nI (q_ct bw bm u d i)) ?_ N 0 (nI 0, s) (by omega) (by omega) ⟨rfl, rfl⟩) ?_
  · intro g i ⟨q1, q2⟩ hi' ⟨i1, i2⟩
    dsimp only at i1 i2
    subst i1 i2
    obtain ⟨a1, a2, a3, a4⟩ := h3 i hi'
    have hst : G_Wires_pieceAt_5 N (nI u) (nI d) (g + 1) (nI (q_ct bw bm u d i)) (nI i) q2 = if bw i = u then (if d < bm i then G_Wires_pieceAt_5 N (nI u) (nI d) g (nI (q_ct bw bm u d i)) (nI (i + 1)) q2 else G_Wires_pieceAt_5 N (nI u) (nI d) g (nI (q_ct bw bm u d i + 1)) (nI (i + 1)) q2) else G_Wires_pieceAt_5 N (nI u) (nI d) g (nI (q_ct bw bm u d i)) (nI (i + 1)) q2 := by
      show GB_Wires_pieceAt_5 N (G_Wires_pieceAt_5 N (nI u) (nI d) g) (nI u) (nI d) (nI (q_ct bw bm u d i)) (nI i) q2 = _
      unfold GB_Wires_pieceAt_5 G_Wires_pieceAt_43
      rw [h2, if_neg (nI_ge hi' (by omega)), vat_nI (show i < 10 by omega) (by decide), vat_nI (show i < 10 by omega) (by decide), a1, a2]
      simp (disch := omega) only [nI_eq, nI_ltI, nI_1]
    by_cases c1 : bw i = u
    · by_cases c2 : d < bm i
      · refine ⟨(nI (q_ct bw bm u d i), q2), ⟨rfl, ?_⟩, hst.trans ?_⟩
        · simp only [q_ct]
          rw [if_neg (by omega), Nat.add_zero]
        · rw [if_pos c1, if_pos c2]
      · refine ⟨(nI (q_ct bw bm u d i + 1), q2), ⟨rfl, ?_⟩, hst.trans ?_⟩
        · simp only [q_ct]
          rw [if_pos ⟨c1, by omega⟩]
        · rw [if_pos c1, if_neg c2]
    · refine ⟨(nI (q_ct bw bm u d i), q2), ⟨rfl, ?_⟩, hst.trans ?_⟩
      · simp only [q_ct]
        rw [if_neg (fun z => c1 z.1), Nat.add_zero]
      · rw [if_neg c1]
  · intro g ⟨⟨q1, q2⟩, ⟨i1, i2⟩, e⟩
    dsimp only at i1 i2 e
    subst i1 i2
    have hst : G_Wires_pieceAt_5 N (nI u) (nI d) (g + 1) (nI (q_ct bw bm u d n)) (nI n) q2 = some (nI (q_ct bw bm u d n), q2) := by
      show GB_Wires_pieceAt_5 N (G_Wires_pieceAt_5 N (nI u) (nI d) g) (nI u) (nI d) (nI (q_ct bw bm u d n)) (nI n) q2 = _
      unfold GB_Wires_pieceAt_5 G_Wires_pieceAt_49
      rw [h2, if_pos (nI_le (Nat.le_refl _) (by omega))]
    rw [show G_Wires_pieceAt_5 N (nI u) (nI d) N 0 0 q2 = _ from e, hst, h4]
    rfl
theorem c_pieceAtEnd {e : Nat} (hf : FX D hi) (h : CW D hi s A w b P) {u : Nat} (hu : u < 56) : F_Wires_pieceAtEnd N (mkM h0 B D hi z s) (B + 6) (nI u) (nI e) = some (nI (if e = 0 then 0 else q_nk A w b u 99), (mkM h0 B D hi z s)) ∨ 2 ^ 31 ≤ e := by
  by_cases he : e < 2 ^ 31
  · left
    rw [sg_Wires_pieceAtEnd hf]
    unfold G_Wires_pieceAtEnd G_Wires_pieceAtEnd_16
    by_cases h0e : e = 0
    · rw [if_pos (by rw [h0e]; rfl), if_pos h0e]
      rfl
    · rw [if_neg (nI_ne0 (by omega) he), if_neg h0e, vat_nI hu (by decide), h.2.2.2.1.2 u hu]
      rfl
  · exact Or.inr (by omega)
theorem c_wireBehind (hf : FX D hi) (hA : WF A) (h : CW D hi s A w b P) (hPb : P + 30 < 2 ^ 31) {u e : Nat} (hu : q_st A u) (he : e < 2) : F_Wires_wireBehind N (mkM h0 B D hi z s) (B + 6) (nI u) (nI e) = some (cd (q_nx A w u e), (mkM h0 B D hi z s)) := by
  obtain ⟨h1, ⟨Y, h2, h3, h4, h5⟩, h6, h7, h8⟩ := h
  obtain ⟨_, _, y1, y2, y3, y4⟩ := id h4
  have hul := q_st_lt hA hu
  have r12 : AR D hi 12 56 := ar_fx hf (by decide) (fx_12 hf) (by decide)
  have r13 : AR D hi 13 56 := ar_fx hf (by decide) (fx_13 hf) (by decide)
  have hrof : rof B (s.1 6 10) = some (B + Y) := by rw [h2]; exact rof_nI (by omega)
  unfold F_Wires_wireBehind q_nx
  rw [rcm_6 hf, if_pos rfl]
  by_cases h0e : e = 0
  · rw [if_pos (by rw [h0e]; rfl), if_pos h0e, o6_10 hf, hrof]
    dsimp only [Option.bind_some]
    rw [yt_0 h4]
    dsimp only [Option.bind_some]
    rw [rdm_6_1 hf]
    dsimp only [Option.bind_some]
    have hol := q_st_lt hA ((q_out_st hA (w := w)).1.mpr hu)
    rw [ar_v r12, vat_nI hul.1 (by decide), (h6 u hul.1).1]
    dsimp only [Option.bind_some]
    rw [ar_v y1, vat_nI hol.1 (by decide), (h5.1 _ hol.1).1]
    rfl
  · rw [if_neg (nI_ne0 (by omega) (by omega)), if_neg h0e, rdm_6_2 hf]
    dsimp only [Option.bind_some]
    rw [o6_10 hf, hrof]
    dsimp only [Option.bind_some]
    rw [yt_1 h4]
    dsimp only [Option.bind_some]
    have hb : s.1 (Y + 2) u = cd (q_bk A w u) := (h5.1 u hul.1).2.1
    have hbl : q_bk A w u ≤ 56 := q_ff_lt 56
    rw [ar_v y2, vat_nI hul.1 (by decide), hb]
    dsimp only [Option.bind_some]
    rw [ar_v r13, vat_cd hbl (by decide)]
    dsimp only [Option.bind_some]
    by_cases hb0 : q_bk A w u = 0
    · rw [if_pos hb0, if_pos hb0, cd_0]
    · rw [if_neg hb0, if_neg hb0, (h6 _ (by omega)).2, cd_s]
/-- pieces joined by a JOINT -/
def q_J (A : AP) (w : Nat) (b : Nat × Nat) (n m : Nat) : Prop := ∃ s, q_st A s ∧ q_on A w (q_out A w s) ≠ 0 ∧ n = 16 * s + q_nk A w b s (q_ln A (s / 8)) ∧ m + 16 = 16 * q_on A w (q_out A w s)
/-- the tone has gone on -/
def tG (s s' : mst) : Prop := (∀ v, tR s v → tR s' v) ∧ (∀ q y j, q = 50 ∨ q = 51 → (nS (s.1 q y)).testBit j = true → (nS (s'.1 q y)).testBit j = true) ∧ Fm (fun q => 47 ≤ q ∧ q ≤ 51) s s'
theorem tG_r : tG s s := ⟨fun _ h => h, fun _ _ _ _ h => h, Fm_r⟩
theorem tG_t {s' s'' : mst} (h : tG s s') (h' : tG s' s'') : tG s s'' := ⟨fun v hv => h'.1 v (h.1 v hv), fun q y j hq hj => h'.2.1 q y j hq (h.2.1 q y j hq hj), Fm_t h.2.2 h'.2.2⟩
theorem tG_k {s' : mst} (h : tK s s') : tG s s' := ⟨h.1, fun q y j hq hj => by
  rcases hq with rfl | rfl
  · rw [h.2.1]; exact hj
  · rw [h.2.2.1]; exact hj, Fm_m h.2.2.2 (fun q hq => by omega)⟩
theorem c_goAlong (hN : 100 ≤ N) (hf : FX D hi) (hG : GW A w b wet) (hb : GB A b) (hP : P = 58 ∨ 130 ≤ P) (hPb : P + 30 < 2 ^ 31) (h : CW D hi s A w b P) {v : Nat} (hJ : TJ A w b wet v0 Ex k s) (hv : nok A v) (hq : q_R A w b wet v0 v) : ∃ s', F_Tone_goAlong N (mkM h0 B D hi z s) (B + 47) (B + 6) (nI (v / 16)) (nI (v % 16)) = some (mkM h0 B D hi z (s')) ∧ TJ A w b wet v0 Ex k s' ∧ tG s s' ∧ (∀ c, q_J A w b v c ∨ q_J A w b c v → tR s' c) ∧ (v % 16 = 0 → (nS (s'.1 50 (v / 16 / 8))).testBit (v / 16 % 8) = true) ∧ (v % 16 = q_nk A w b (v / 16) (q_ln A (v / 16 / 8)) → (nS (s'.1 51 (v / 16 / 8))).testBit (q_out A w (v / 16) % 8) = true) := by
  have hA := hG.1
  obtain ⟨l1, l2, l3⟩ := nok_lt hA hv
  obtain ⟨hst, hv10⟩ := id hv
  have hul := q_st_lt hA hst
  have r50 : AR D hi 50 7 := ar_fx hf (by decide) (fx_50 hf) (by decide)
  have r51 : AR D hi 51 7 := ar_fx hf (by decide) (fx_51 hf) (by decide)
  have r12 : AR D hi 12 56 := ar_fx hf (by decide) (fx_12 hf) (by decide)
  have e8 : 8 * (v / 16 / 8) + v / 16 % 8 = v / 16 := by omega
  -- the far end
  have far : ∀ (s1 : mst), TJ A w b wet v0 Ex k s1 → CW D hi s1 A w b P → ∃ s', F_Tone_goAlong_54 N (B + 47) (B + 6) (nI (v / 16)) (nI (v % 16)) (nI (v / 16 / 8)) (mkM h0 B D hi z (s1)) = some (mkM h0 B D hi z (s')) ∧ TJ A w b wet v0 Ex k s' ∧ tG s1 s' ∧ (∀ c, q_J A w b v c → tR s' c) ∧ (v % 16 = q_nk A w b (v / 16) (q_ln A (v / 16 / 8)) → (nS (s'.1 51 (v / 16 / 8))).testBit (q_out A w (v / 16) % 8) = true) := by
    intro s1 hJ1 hW1
    have hn : q_nk A w b (v / 16) 99 ≤ 10 := nk10 hG
    have hn99 := q_nk_99 (u := v / 16) hG hb
    have hpe : F_Wires_pieceAtEnd N (mkM h0 B D hi z (s1)) (B + 6) (nI (v / 16)) 1 = some (nI (q_nk A w b (v / 16) 99), (mkM h0 B D hi z (s1))) := by
      have := (c_pieceAtEnd (N := N) (h0 := h0) (B := B) (z := z) (e := 1) hf hW1 l2).resolve_right (by omega)
      rw [if_neg (by decide)] at this
      exact this
    unfold F_Tone_goAlong_54 F_Tone_goAlong_109
    rw [hpe]
    dsimp only [Option.bind_some]
    by_cases hc : v % 16 = q_nk A w b (v / 16) 99
    · rw [if_pos (by rw [← hc])]
      have ho := q_out_st hA (w := w) (s := v / 16)
      have hos := ho.1.mpr hst
      have hol := q_st_lt hA hos
      have eo : 8 * (v / 16 / 8) + q_out A w (v / 16) % 8 = q_out A w (v / 16) := by rw [← ho.2]; omega
      have hvn : q_nd A w b (8 * (v / 16 / 8) + q_out A w (v / 16) % 8) 1 = v := by
        rw [eo]
        unfold q_nd
        rw [if_neg (by decide), q_in_out, ho.2, ← hn99, ← hc]
        omega
      obtain ⟨s2, e2, J2, b2, R2, m2, mo2⟩ := c_mark hJ1 (x := v / 16 / 8) (p := q_out A w (v / 16) % 8) (e := 1) (by omega) (by omega) (by omega) (by rw [eo]; exact hos) (by rw [hvn]; exact hq)
      have hW2 : CW D hi s2 A w b P := CW_fm hW1 m2 hP (fun q hq2 hh => by omega)
      have hbb : nS (s1.1 51 (v / 16 / 8)) < 2 ^ 6 := (hJ1.1.2.2.2 _ (by omega)).2.2
      have hb51 : s1.1 51 (v / 16 / 8) = nI (nS (s1.1 51 (v / 16 / 8))) := (hJ1.1.2.2.2 _ (by omega)).2.1
      rw [rdm_6_1 hf]
      dsimp only [Option.bind_some]
      rw [ar_v r12, vat_nI l2 (by decide), (hW1.2.2.1 _ l2).1]
      dsimp only [Option.bind_some]
      rw [rdm_47_3 hf]
      dsimp only [Option.bind_some]
      have hct : F_Tone_comesTo N (mkM h0 B D hi z (s1)) (B + 47) (nI (v / 16 / 8)) 1 = some (s1.1 51 (v / 16 / 8), (mkM h0 B D hi z (s1))) := by
        rw [sg_Tone_comesTo hf]
        unfold G_Tone_comesTo G_Tone_comesTo_15_2
        rw [if_neg (by decide), vat_nI (by omega) (by decide)]
        rfl
      rw [hct]
      dsimp only [Option.bind_some]
      rw [c_pairOf (by omega)]
      dsimp only [Option.bind_some]
      rw [sh1 (by omega), hb51, nI_or, ar_s r51, ws_nI (by omega) (by decide)]
      rw [show wr1 s1 51 (v / 16 / 8) (nI (nS (s1.1 51 (v / 16 / 8)) ||| 2 ^ (q_out A w (v / 16) % 8))) = s2 from e2.symm]
      dsimp only [Option.bind_some]
      rw [L_0, c_wireBehind hf hA hW2 hPb hst (by omega)]
      dsimp only [Option.bind_some]
      have hG12 : tG s1 s2 := ⟨fun x hx => (R2 x).mpr hx, fun q y j _ hj => mo2 q y j hj, Fm_m m2 (fun q hq2 => by omega)⟩
      by_cases hnx : q_nx A w (v / 16) 0 = 0
      · rw [hnx, cd_0, c_come0 hf]
        refine ⟨s2, rfl, J2, hG12, fun c hc2 => ?_, fun _ => b2⟩
        obtain ⟨u, u1, u2, u3, u4⟩ := hc2
        have : q_nk A w b u (q_ln A (u / 8)) ≤ 10 := nk10 hG
        have hu : u = v / 16 := by omega
        rw [hu] at u2
        unfold q_nx at hnx
        rw [if_pos rfl] at hnx
        exact absurd hnx u2
      · obtain ⟨y, hy⟩ : ∃ y, q_nx A w (v / 16) 0 = y + 1 := ⟨q_nx A w (v / 16) 0 - 1, by omega⟩
        have hys := (q_nx_st hA hst (w := w) (e := 0) hnx).1
        rw [hy, Nat.add_sub_cancel] at hys
        have hon : q_on A w (q_out A w (v / 16)) = y + 1 := by
          have := hy
          unfold q_nx at this
          rw [if_pos rfl] at this
          exact this
        have hE : q_E A w b wet v (16 * y + 0) := Or.inl ⟨v / 16, hst, by omega, by rw [← hn99, ← hc]; omega, by omega⟩
        obtain ⟨s3, e3, J3, R3, K3⟩ := c_come (N := N) (h0 := h0) (B := B) (z := z) hf hA J2 (nok_mk hys (by omega)) ((q_R_E hE).mp hq)
        rw [show (16 * y + 0) / 16 = y by omega, show (16 * y + 0) % 16 = 0 by omega] at e3
        rw [hy, cd_s, e3]
        refine ⟨s3, rfl, J3, tG_t hG12 (tG_k K3), fun c hc2 => ?_, fun _ => (tG_k K3).2.1 51 _ _ (Or.inr rfl) b2⟩
        obtain ⟨u, u1, u2, u3, u4⟩ := hc2
        have : q_nk A w b u (q_ln A (u / 8)) ≤ 10 := nk10 hG
        have hu : u = v / 16 := by omega
        rw [hu, hon] at u4
        rw [show c = 16 * y + 0 by omega]
        exact R3
    · rw [if_neg (fun e => hc ((nI_eq (by omega) (by omega)).mp e))]
      refine ⟨s1, rfl, hJ1, tG_r, fun c hc2 => ?_, fun e => absurd (by rw [hn99]; exact e) hc⟩
      obtain ⟨u, u1, u2, u3, u4⟩ := hc2
      have : q_nk A w b u (q_ln A (u / 8)) ≤ 10 := nk10 hG
      have hu : u = v / 16 := by omega
      rw [hu, ← hn99] at u3
      exact absurd (by omega) hc
  unfold F_Tone_goAlong
  rw [rcm_47 hf, if_pos rfl, c_cableOf (by omega)]
  dsimp only [Option.bind_some]
  by_cases h0v : v % 16 = 0
  · rw [if_pos (by rw [h0v]; rfl)]
    have hvn : q_nd A w b (8 * (v / 16 / 8) + v / 16 % 8) 0 = v := by
      rw [e8]
      unfold q_nd
      rw [if_pos rfl]
      omega
    obtain ⟨s2, e2, J2, b2, R2, m2, mo2⟩ := c_mark hJ (x := v / 16 / 8) (p := v / 16 % 8) (e := 0) (by omega) (by omega) (by omega) (by rw [e8]; exact hst) (by rw [hvn]; exact hq)
    have hW2 : CW D hi s2 A w b P := CW_fm h m2 hP (fun q hq2 hh => by omega)
    have hbb : nS (s.1 50 (v / 16 / 8)) < 2 ^ 6 := (hJ.1.2.2.2 _ (by omega)).1.2
    have hb50 : s.1 50 (v / 16 / 8) = nI (nS (s.1 50 (v / 16 / 8))) := (hJ.1.2.2.2 _ (by omega)).1.1
    rw [rdm_47_2 hf]
    dsimp only [Option.bind_some]
    have hct : F_Tone_comesTo N (mkM h0 B D hi z s) (B + 47) (nI (v / 16 / 8)) 0 = some (s.1 50 (v / 16 / 8), (mkM h0 B D hi z s)) := by
      rw [sg_Tone_comesTo hf]
      unfold G_Tone_comesTo G_Tone_comesTo_15
      rw [if_pos rfl, vat_nI (by omega) (by decide)]
      rfl
    rw [hct]
    dsimp only [Option.bind_some]
    rw [c_pairOf (by omega)]
    dsimp only [Option.bind_some]
    rw [sh1 (by omega), hb50, nI_or, ar_s r50, ws_nI (by omega) (by decide)]
    rw [show wr1 s 50 (v / 16 / 8) (nI (nS (s.1 50 (v / 16 / 8)) ||| 2 ^ (v / 16 % 8))) = s2 from e2.symm]
    dsimp only [Option.bind_some]
    rw [L_1, c_wireBehind hf hA hW2 hPb hst (by omega)]
    dsimp only [Option.bind_some]
    have hG12 : tG s s2 := ⟨fun x hx => (R2 x).mpr hx, fun q y j _ hj => mo2 q y j hj, Fm_m m2 (fun q hq2 => by omega)⟩
    have back : ∃ s3 v16, F_Wires_pieceAtEnd N (mkM h0 B D hi z (s2)) (B + 6) (cd (q_nx A w (v / 16) 1)) (nI 1) = some (v16, (mkM h0 B D hi z (s2))) ∧ F_Tone_come N (mkM h0 B D hi z (s2)) (B + 47) (cd (q_nx A w (v / 16) 1)) v16 = some (mkM h0 B D hi z (s3)) ∧ TJ A w b wet v0 Ex k s3 ∧ tG s2 s3 ∧ ∀ c, q_J A w b c v → tR s3 c := by
      by_cases hnx : q_nx A w (v / 16) 1 = 0
      · refine ⟨s2, -1, ?_, ?_, J2, tG_r, fun c hc2 => ?_⟩
        · rw [hnx, cd_0, sg_Wires_pieceAtEnd hf]
          unfold G_Wires_pieceAtEnd G_Wires_pieceAtEnd_16
          rw [if_neg (by decide), vat_n1]
          rfl
        · rw [hnx, cd_0, c_come0 hf]
        · obtain ⟨u, u1, u2, u3, u4⟩ := hc2
          have hon : q_on A w (q_out A w u) = v / 16 + 1 := by omega
          have hbk := (q_bk_s hA).mpr hon
          unfold q_nx at hnx
          rw [if_neg (by decide), if_neg (by omega)] at hnx
          omega
      · obtain ⟨y, hy⟩ : ∃ y, q_nx A w (v / 16) 1 = y + 1 := ⟨q_nx A w (v / 16) 1 - 1, by omega⟩
        have hys := (q_nx_st hA hst (w := w) (e := 1) hnx).1
        rw [hy, Nat.add_sub_cancel] at hys
        have hyl := q_st_lt hA hys
        have hn99 := q_nk_99 (u := y) hG hb
        have hon : q_on A w (q_out A w y) = v / 16 + 1 := by
          have := hy
          unfold q_nx at this
          rw [if_neg (by decide)] at this
          by_cases hbk : q_bk A w (v / 16) = 0
          · rw [if_pos hbk] at this; omega
          · rw [if_neg hbk] at this
            have h3 : q_in A w (q_bk A w (v / 16) - 1) = y := by omega
            rw [← h3, q_out_in]
            exact (q_bk_s hA).mp (by omega)
        have hE : q_E A w b wet (16 * y + q_nk A w b y (q_ln A (y / 8))) v := Or.inl ⟨y, hys, by omega, rfl, by omega⟩
        have hn : q_nk A w b y (q_ln A (y / 8)) ≤ 10 := nk10 hG
        obtain ⟨s3, e3, J3, R3, K3⟩ := c_come (N := N) (h0 := h0) (B := B) (z := z) hf hA J2 (nok_mk hys hn) ((q_R_E hE).mpr hq)
        rw [show (16 * y + q_nk A w b y (q_ln A (y / 8))) / 16 = y by omega, show (16 * y + q_nk A w b y (q_ln A (y / 8))) % 16 = q_nk A w b y (q_ln A (y / 8)) by omega] at e3
        refine ⟨s3, nI (q_nk A w b y (q_ln A (y / 8))), ?_, ?_, J3, tG_k K3, fun c hc2 => ?_⟩
        · rw [hy, cd_s]
          have := (c_pieceAtEnd (N := N) (h0 := h0) (B := B) (z := z) (e := 1) hf hW2 hyl.1).resolve_right (by omega)
          rw [if_neg (by decide), hn99] at this
          exact this
        · rw [hy, cd_s]; exact e3
        · obtain ⟨u, u1, u2, u3, u4⟩ := hc2
          have hon2 : q_on A w (q_out A w u) = v / 16 + 1 := by omega
          have h5 : q_out A w u = q_out A w y := (LX_lw hA w _ (Nat.le_refl _)).1.2 _ _ (show q_on A w (q_out A w u) ≠ 0 by omega) (show q_on A w (q_out A w u) = q_on A w (q_out A w y) by omega)
          have h6 : u = y := by rw [← q_in_out (A := A) (w := w) (s := u), h5, q_in_out]
          rw [u3, h6]
          exact R3
    obtain ⟨s3, v16, p1, p2, J3, G3, B3⟩ := back
    rw [p1]
    dsimp only [Option.bind_some]
    rw [p2]
    dsimp only [Option.bind_some]
    have hW3 : CW D hi s3 A w b P := CW_fm hW2 G3.2.2 hP (fun q hq2 hh => by omega)
    obtain ⟨s4, e4, J4, G4, B4, F4⟩ := far s3 J3 hW3
    refine ⟨s4, e4, J4, tG_t hG12 (tG_t G3 G4), fun c hc => ?_, fun _ => (tG_t G3 G4).2.1 50 _ _ (Or.inl rfl) b2, F4⟩
    rcases hc with hc | hc
    · exact B4 c hc
    · exact G4.1 c (B3 c hc)
  · rw [if_neg (nI_ne0 (by omega) (by omega))]
    obtain ⟨s4, e4, J4, G4, B4, F4⟩ := far s hJ h
    refine ⟨s4, e4, J4, G4, fun c hc => ?_, fun e => absurd e h0v, F4⟩
    rcases hc with hc | ⟨u, u1, u2, u3, u4⟩
    · exact B4 c hc
    · omega
end SEND
